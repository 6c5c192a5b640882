theorem dX9_init_0 : decode cX9_init 0 = .ok (.aload_n 0, 1) := by decide +kernel
theorem dX9_init_1 : decode cX9_init 1 = .ok (.invokespecial 3, 3) := by decide +kernel
theorem dX9_init_4 : decode cX9_init 4 = .ok (.aload_n 0, 1) := by decide +kernel
theorem dX9_init_5 : decode cX9_init 5 = .ok (.new 9, 3) := by decide +kernel
theorem dX9_init_8 : decode cX9_init 8 = .ok (.dup, 1) := by decide +kernel
theorem dX9_init_9 : decode cX9_init 9 = .ok (.invokespecial 11, 3) := by decide +kernel
theorem dX9_init_12 : decode cX9_init 12 = .ok (.putfield 12, 3) := by decide +kernel
theorem dX9_init_15 : decode cX9_init 15 = .ok (.aload_n 0, 1) := by decide +kernel
theorem dX9_init_16 : decode cX9_init 16 = .ok (.new 16, 3) := by decide +kernel
theorem dX9_init_19 : decode cX9_init 19 = .ok (.dup, 1) := by decide +kernel
theorem dX9_init_20 : decode cX9_init 20 = .ok (.invokespecial 18, 3) := by decide +kernel
theorem dX9_init_23 : decode cX9_init 23 = .ok (.putfield 19, 3) := by decide +kernel
theorem dX9_init_26 : decode cX9_init 26 = .ok (.aload_n 0, 1) := by decide +kernel
theorem dX9_init_27 : decode cX9_init 27 = .ok (.new 16, 3) := by decide +kernel
theorem dX9_init_30 : decode cX9_init 30 = .ok (.dup, 1) := by decide +kernel
theorem dX9_init_31 : decode cX9_init 31 = .ok (.invokespecial 18, 3) := by decide +kernel
theorem dX9_init_34 : decode cX9_init 34 = .ok (.putfield 23, 3) := by decide +kernel
theorem dX9_init_37 : decode cX9_init 37 = .ok (.aload_n 0, 1) := by decide +kernel
theorem dX9_init_38 : decode cX9_init 38 = .ok (.new 26, 3) := by decide +kernel
theorem dX9_init_41 : decode cX9_init 41 = .ok (.dup, 1) := by decide +kernel
theorem dX9_init_42 : decode cX9_init 42 = .ok (.aload_n 0, 1) := by decide +kernel
theorem dX9_init_43 : decode cX9_init 43 = .ok (.getfield 19, 3) := by decide +kernel
theorem dX9_init_46 : decode cX9_init 46 = .ok (.invokespecial 28, 3) := by decide +kernel
theorem dX9_init_49 : decode cX9_init 49 = .ok (.putfield 31, 3) := by decide +kernel
theorem dX9_init_52 : decode cX9_init 52 = .ok (.aload_n 0, 1) := by decide +kernel
theorem dX9_init_53 : decode cX9_init 53 = .ok (.new 35, 3) := by decide +kernel
theorem dX9_init_56 : decode cX9_init 56 = .ok (.dup, 1) := by decide +kernel
theorem dX9_init_57 : decode cX9_init 57 = .ok (.aload_n 0, 1) := by decide +kernel
theorem dX9_init_58 : decode cX9_init 58 = .ok (.getfield 31, 3) := by decide +kernel
theorem dX9_init_61 : decode cX9_init 61 = .ok (.invokespecial 37, 3) := by decide +kernel
theorem dX9_init_64 : decode cX9_init 64 = .ok (.putfield 40, 3) := by decide +kernel
theorem dX9_init_67 : decode cX9_init 67 = .ok (.aload_n 0, 1) := by decide +kernel
theorem dX9_init_68 : decode cX9_init 68 = .ok (.new 44, 3) := by decide +kernel
theorem dX9_init_71 : decode cX9_init 71 = .ok (.dup, 1) := by decide +kernel
theorem dX9_init_72 : decode cX9_init 72 = .ok (.aload_n 0, 1) := by decide +kernel
theorem dX9_init_73 : decode cX9_init 73 = .ok (.getfield 31, 3) := by decide +kernel
theorem dX9_init_76 : decode cX9_init 76 = .ok (.invokespecial 46, 3) := by decide +kernel
theorem dX9_init_79 : decode cX9_init 79 = .ok (.putfield 47, 3) := by decide +kernel
theorem dX9_init_82 : decode cX9_init 82 = .ok (.aload_n 0, 1) := by decide +kernel
theorem dX9_init_83 : decode cX9_init 83 = .ok (.new 51, 3) := by decide +kernel
theorem dX9_init_86 : decode cX9_init 86 = .ok (.dup, 1) := by decide +kernel
theorem dX9_init_87 : decode cX9_init 87 = .ok (.aload_n 0, 1) := by decide +kernel
theorem dX9_init_88 : decode cX9_init 88 = .ok (.getfield 31, 3) := by decide +kernel
theorem dX9_init_91 : decode cX9_init 91 = .ok (.aload_n 0, 1) := by decide +kernel
theorem dX9_init_92 : decode cX9_init 92 = .ok (.getfield 47, 3) := by decide +kernel
theorem dX9_init_95 : decode cX9_init 95 = .ok (.invokespecial 53, 3) := by decide +kernel
theorem dX9_init_98 : decode cX9_init 98 = .ok (.putfield 56, 3) := by decide +kernel
theorem dX9_init_101 : decode cX9_init 101 = .ok (.aload_n 0, 1) := by decide +kernel
theorem dX9_init_102 : decode cX9_init 102 = .ok (.new 60, 3) := by decide +kernel
theorem dX9_init_105 : decode cX9_init 105 = .ok (.dup, 1) := by decide +kernel
theorem dX9_init_106 : decode cX9_init 106 = .ok (.aload_n 0, 1) := by decide +kernel
theorem dX9_init_107 : decode cX9_init 107 = .ok (.getfield 31, 3) := by decide +kernel
theorem dX9_init_110 : decode cX9_init 110 = .ok (.aload_n 0, 1) := by decide +kernel
theorem dX9_init_111 : decode cX9_init 111 = .ok (.getfield 47, 3) := by decide +kernel
theorem dX9_init_114 : decode cX9_init 114 = .ok (.invokespecial 62, 3) := by decide +kernel
theorem dX9_init_117 : decode cX9_init 117 = .ok (.putfield 63, 3) := by decide +kernel
theorem dX9_init_120 : decode cX9_init 120 = .ok (.aload_n 0, 1) := by decide +kernel
theorem dX9_init_121 : decode cX9_init 121 = .ok (.new 67, 3) := by decide +kernel
theorem dX9_init_124 : decode cX9_init 124 = .ok (.dup, 1) := by decide +kernel
theorem dX9_init_125 : decode cX9_init 125 = .ok (.invokespecial 69, 3) := by decide +kernel
theorem dX9_init_128 : decode cX9_init 128 = .ok (.putfield 70, 3) := by decide +kernel
theorem dX9_init_131 : decode cX9_init 131 = .ok (.aload_n 0, 1) := by decide +kernel
theorem dX9_init_132 : decode cX9_init 132 = .ok (.new 74, 3) := by decide +kernel
theorem dX9_init_135 : decode cX9_init 135 = .ok (.dup, 1) := by decide +kernel
theorem dX9_init_136 : decode cX9_init 136 = .ok (.invokespecial 76, 3) := by decide +kernel
theorem dX9_init_139 : decode cX9_init 139 = .ok (.putfield 77, 3) := by decide +kernel
theorem dX9_init_142 : decode cX9_init 142 = .ok (.return_, 1) := by decide +kernel
theorem dX9_type_0 : decode cX9_type 0 = .ok (.iload_n 1, 1) := by decide +kernel
theorem dX9_type_1 : decode cX9_type 1 = .ok (.ifCond .lt 10, 3) := by decide +kernel
theorem dX9_type_4 : decode cX9_type 4 = .ok (.iload_n 1, 1) := by decide +kernel
theorem dX9_type_5 : decode cX9_type 5 = .ok (.sipush 255, 3) := by decide +kernel
theorem dX9_type_8 : decode cX9_type 8 = .ok (.if_icmp .le 5, 3) := by decide +kernel
theorem dX9_type_11 : decode cX9_type 11 = .ok (.iconst (-1), 1) := by decide +kernel
theorem dX9_type_12 : decode cX9_type 12 = .ok (.ireturn, 1) := by decide +kernel
theorem dX9_type_13 : decode cX9_type 13 = .ok (.aload_n 0, 1) := by decide +kernel
theorem dX9_type_14 : decode cX9_type 14 = .ok (.getfield 12, 3) := by decide +kernel
theorem dX9_type_17 : decode cX9_type 17 = .ok (.iload_n 1, 1) := by decide +kernel
theorem dX9_type_18 : decode cX9_type 18 = .ok (.invokevirtual 81, 3) := by decide +kernel
theorem dX9_type_21 : decode cX9_type 21 = .ok (.ifCond .eq 13, 3) := by decide +kernel
theorem dX9_type_24 : decode cX9_type 24 = .ok (.aload_n 0, 1) := by decide +kernel
theorem dX9_type_25 : decode cX9_type 25 = .ok (.getfield 12, 3) := by decide +kernel
theorem dX9_type_28 : decode cX9_type 28 = .ok (.getfield 85, 3) := by decide +kernel
theorem dX9_type_31 : decode cX9_type 31 = .ok (.goto 5, 3) := by decide +kernel
theorem dX9_type_34 : decode cX9_type 34 = .ok (.bipush (-3), 2) := by decide +kernel
theorem dX9_type_36 : decode cX9_type 36 = .ok (.ireturn, 1) := by decide +kernel
theorem dX9_clear_0 : decode cX9_clear 0 = .ok (.aload_n 0, 1) := by decide +kernel
theorem dX9_clear_1 : decode cX9_clear 1 = .ok (.getfield 12, 3) := by decide +kernel
theorem dX9_clear_4 : decode cX9_clear 4 = .ok (.getfield 85, 3) := by decide +kernel
theorem dX9_clear_7 : decode cX9_clear 7 = .ok (.istore_n 1, 1) := by decide +kernel
theorem dX9_clear_8 : decode cX9_clear 8 = .ok (.aload_n 0, 1) := by decide +kernel
theorem dX9_clear_9 : decode cX9_clear 9 = .ok (.getfield 12, 3) := by decide +kernel
theorem dX9_clear_12 : decode cX9_clear 12 = .ok (.iconst 0, 1) := by decide +kernel
theorem dX9_clear_13 : decode cX9_clear 13 = .ok (.putfield 85, 3) := by decide +kernel
theorem dX9_clear_16 : decode cX9_clear 16 = .ok (.iload_n 1, 1) := by decide +kernel
theorem dX9_clear_17 : decode cX9_clear 17 = .ok (.ireturn, 1) := by decide +kernel
theorem dX9_grid_0 : decode cX9_grid 0 = .ok (.aload_n 0, 1) := by decide +kernel
theorem dX9_grid_1 : decode cX9_grid 1 = .ok (.getfield 12, 3) := by decide +kernel
theorem dX9_grid_4 : decode cX9_grid 4 = .ok (.aload_n 0, 1) := by decide +kernel
theorem dX9_grid_5 : decode cX9_grid 5 = .ok (.getfield 23, 3) := by decide +kernel
theorem dX9_grid_8 : decode cX9_grid 8 = .ok (.invokevirtual 89, 3) := by decide +kernel
theorem dX9_grid_11 : decode cX9_grid 11 = .ok (.istore_n 1, 1) := by decide +kernel
theorem dX9_grid_12 : decode cX9_grid 12 = .ok (.iload_n 1, 1) := by decide +kernel
theorem dX9_grid_13 : decode cX9_grid 13 = .ok (.ifCond .ge 5, 3) := by decide +kernel
theorem dX9_grid_16 : decode cX9_grid 16 = .ok (.iload_n 1, 1) := by decide +kernel
theorem dX9_grid_17 : decode cX9_grid 17 = .ok (.ireturn, 1) := by decide +kernel
theorem dX9_grid_18 : decode cX9_grid 18 = .ok (.aload_n 0, 1) := by decide +kernel
theorem dX9_grid_19 : decode cX9_grid 19 = .ok (.getfield 12, 3) := by decide +kernel
theorem dX9_grid_22 : decode cX9_grid 22 = .ok (.iconst 0, 1) := by decide +kernel
theorem dX9_grid_23 : decode cX9_grid 23 = .ok (.putfield 85, 3) := by decide +kernel
theorem dX9_grid_26 : decode cX9_grid 26 = .ok (.aload_n 0, 1) := by decide +kernel
theorem dX9_grid_27 : decode cX9_grid 27 = .ok (.getfield 19, 3) := by decide +kernel
theorem dX9_grid_30 : decode cX9_grid 30 = .ok (.aload_n 0, 1) := by decide +kernel
theorem dX9_grid_31 : decode cX9_grid 31 = .ok (.getfield 23, 3) := by decide +kernel
theorem dX9_grid_34 : decode cX9_grid 34 = .ok (.invokevirtual 93, 3) := by decide +kernel
theorem dX9_grid_37 : decode cX9_grid 37 = .ok (.aload_n 0, 1) := by decide +kernel
theorem dX9_grid_38 : decode cX9_grid 38 = .ok (.getfield 31, 3) := by decide +kernel
theorem dX9_grid_41 : decode cX9_grid 41 = .ok (.invokevirtual 96, 3) := by decide +kernel
theorem dX9_grid_44 : decode cX9_grid 44 = .ok (.aload_n 0, 1) := by decide +kernel
theorem dX9_grid_45 : decode cX9_grid 45 = .ok (.getfield 40, 3) := by decide +kernel
theorem dX9_grid_48 : decode cX9_grid 48 = .ok (.aload_n 0, 1) := by decide +kernel
theorem dX9_grid_49 : decode cX9_grid 49 = .ok (.getfield 19, 3) := by decide +kernel
theorem dX9_grid_52 : decode cX9_grid 52 = .ok (.getfield 99, 3) := by decide +kernel
theorem dX9_grid_55 : decode cX9_grid 55 = .ok (.invokevirtual 102, 3) := by decide +kernel
theorem dX9_grid_58 : decode cX9_grid 58 = .ok (.aload_n 0, 1) := by decide +kernel
theorem dX9_grid_59 : decode cX9_grid 59 = .ok (.getfield 47, 3) := by decide +kernel
theorem dX9_grid_62 : decode cX9_grid 62 = .ok (.invokevirtual 106, 3) := by decide +kernel
theorem dX9_grid_65 : decode cX9_grid 65 = .ok (.aload_n 0, 1) := by decide +kernel
theorem dX9_grid_66 : decode cX9_grid 66 = .ok (.getfield 56, 3) := by decide +kernel
theorem dX9_grid_69 : decode cX9_grid 69 = .ok (.iconst 0, 1) := by decide +kernel
theorem dX9_grid_70 : decode cX9_grid 70 = .ok (.iconst 0, 1) := by decide +kernel
theorem dX9_grid_71 : decode cX9_grid 71 = .ok (.iconst 0, 1) := by decide +kernel
theorem dX9_grid_72 : decode cX9_grid 72 = .ok (.invokevirtual 109, 3) := by decide +kernel
theorem dX9_grid_75 : decode cX9_grid 75 = .ok (.aload_n 0, 1) := by decide +kernel
theorem dX9_grid_76 : decode cX9_grid 76 = .ok (.getfield 63, 3) := by decide +kernel
theorem dX9_grid_79 : decode cX9_grid 79 = .ok (.iconst 0, 1) := by decide +kernel
theorem dX9_grid_80 : decode cX9_grid 80 = .ok (.putfield 112, 3) := by decide +kernel
theorem dX9_grid_83 : decode cX9_grid 83 = .ok (.aload_n 0, 1) := by decide +kernel
theorem dX9_grid_84 : decode cX9_grid 84 = .ok (.getfield 70, 3) := by decide +kernel
theorem dX9_grid_87 : decode cX9_grid 87 = .ok (.iconst 0, 1) := by decide +kernel
theorem dX9_grid_88 : decode cX9_grid 88 = .ok (.putfield 115, 3) := by decide +kernel
theorem dX9_grid_91 : decode cX9_grid 91 = .ok (.aload_n 0, 1) := by decide +kernel
theorem dX9_grid_92 : decode cX9_grid 92 = .ok (.getfield 77, 3) := by decide +kernel
theorem dX9_grid_95 : decode cX9_grid 95 = .ok (.invokevirtual 116, 3) := by decide +kernel
theorem dX9_grid_98 : decode cX9_grid 98 = .ok (.iload_n 1, 1) := by decide +kernel
theorem dX9_grid_99 : decode cX9_grid 99 = .ok (.ireturn, 1) := by decide +kernel
theorem dX9_cell_0 : decode cX9_cell 0 = .ok (.aload_n 0, 1) := by decide +kernel
theorem dX9_cell_1 : decode cX9_cell 1 = .ok (.getfield 19, 3) := by decide +kernel
theorem dX9_cell_4 : decode cX9_cell 4 = .ok (.iload_n 1, 1) := by decide +kernel
theorem dX9_cell_5 : decode cX9_cell 5 = .ok (.iload_n 2, 1) := by decide +kernel
theorem dX9_cell_6 : decode cX9_cell 6 = .ok (.invokevirtual 117, 3) := by decide +kernel
theorem dX9_cell_9 : decode cX9_cell 9 = .ok (.istore_n 3, 1) := by decide +kernel
theorem dX9_cell_10 : decode cX9_cell 10 = .ok (.iload_n 3, 1) := by decide +kernel
theorem dX9_cell_11 : decode cX9_cell 11 = .ok (.iconst (-1), 1) := by decide +kernel
theorem dX9_cell_12 : decode cX9_cell 12 = .ok (.if_icmp .ne 5, 3) := by decide +kernel
theorem dX9_cell_15 : decode cX9_cell 15 = .ok (.iconst (-1), 1) := by decide +kernel
theorem dX9_cell_16 : decode cX9_cell 16 = .ok (.ireturn, 1) := by decide +kernel
theorem dX9_cell_17 : decode cX9_cell 17 = .ok (.aload_n 0, 1) := by decide +kernel
theorem dX9_cell_18 : decode cX9_cell 18 = .ok (.getfield 19, 3) := by decide +kernel
theorem dX9_cell_21 : decode cX9_cell 21 = .ok (.getfield 121, 3) := by decide +kernel
theorem dX9_cell_24 : decode cX9_cell 24 = .ok (.iload_n 3, 1) := by decide +kernel
theorem dX9_cell_25 : decode cX9_cell 25 = .ok (.invokestatic 124, 3) := by decide +kernel
theorem dX9_cell_28 : decode cX9_cell 28 = .ok (.ifCond .eq 5, 3) := by decide +kernel
theorem dX9_cell_31 : decode cX9_cell 31 = .ok (.iconst 2, 1) := by decide +kernel
theorem dX9_cell_32 : decode cX9_cell 32 = .ok (.ireturn, 1) := by decide +kernel
theorem dX9_cell_33 : decode cX9_cell 33 = .ok (.aload_n 0, 1) := by decide +kernel
theorem dX9_cell_34 : decode cX9_cell 34 = .ok (.getfield 40, 3) := by decide +kernel
theorem dX9_cell_37 : decode cX9_cell 37 = .ok (.getfield 128, 3) := by decide +kernel
theorem dX9_cell_40 : decode cX9_cell 40 = .ok (.iload_n 3, 1) := by decide +kernel
theorem dX9_cell_41 : decode cX9_cell 41 = .ok (.invokestatic 124, 3) := by decide +kernel
theorem dX9_cell_44 : decode cX9_cell 44 = .ok (.ifCond .eq 7, 3) := by decide +kernel
theorem dX9_cell_47 : decode cX9_cell 47 = .ok (.iconst 1, 1) := by decide +kernel
theorem dX9_cell_48 : decode cX9_cell 48 = .ok (.goto 4, 3) := by decide +kernel
theorem dX9_cell_51 : decode cX9_cell 51 = .ok (.iconst 0, 1) := by decide +kernel
theorem dX9_cell_52 : decode cX9_cell 52 = .ok (.ireturn, 1) := by decide +kernel
theorem dX9_near_0 : decode cX9_near 0 = .ok (.aload_n 0, 1) := by decide +kernel
theorem dX9_near_1 : decode cX9_near 1 = .ok (.getfield 31, 3) := by decide +kernel
theorem dX9_near_4 : decode cX9_near 4 = .ok (.iload_n 1, 1) := by decide +kernel
theorem dX9_near_5 : decode cX9_near 5 = .ok (.invokevirtual 131, 3) := by decide +kernel
theorem dX9_near_8 : decode cX9_near 8 = .ok (.ifCond .eq 23, 3) := by decide +kernel
theorem dX9_near_11 : decode cX9_near 11 = .ok (.aload_n 0, 1) := by decide +kernel
theorem dX9_near_12 : decode cX9_near 12 = .ok (.getfield 31, 3) := by decide +kernel
theorem dX9_near_15 : decode cX9_near 15 = .ok (.iload_n 2, 1) := by decide +kernel
theorem dX9_near_16 : decode cX9_near 16 = .ok (.invokevirtual 131, 3) := by decide +kernel
theorem dX9_near_19 : decode cX9_near 19 = .ok (.ifCond .eq 12, 3) := by decide +kernel
theorem dX9_near_22 : decode cX9_near 22 = .ok (.iload_n 3, 1) := by decide +kernel
theorem dX9_near_23 : decode cX9_near 23 = .ok (.ifCond .lt 8, 3) := by decide +kernel
theorem dX9_near_26 : decode cX9_near 26 = .ok (.iload_n 3, 1) := by decide +kernel
theorem dX9_near_27 : decode cX9_near 27 = .ok (.iconst 1, 1) := by decide +kernel
theorem dX9_near_28 : decode cX9_near 28 = .ok (.if_icmp .le 5, 3) := by decide +kernel
theorem dX9_near_31 : decode cX9_near 31 = .ok (.iconst (-1), 1) := by decide +kernel
theorem dX9_near_32 : decode cX9_near 32 = .ok (.ireturn, 1) := by decide +kernel
theorem dX9_near_33 : decode cX9_near 33 = .ok (.iload_n 3, 1) := by decide +kernel
theorem dX9_near_34 : decode cX9_near 34 = .ok (.ifCond .ne 15, 3) := by decide +kernel
theorem dX9_near_37 : decode cX9_near 37 = .ok (.aload_n 0, 1) := by decide +kernel
theorem dX9_near_38 : decode cX9_near 38 = .ok (.getfield 31, 3) := by decide +kernel
theorem dX9_near_41 : decode cX9_near 41 = .ok (.iload_n 1, 1) := by decide +kernel
theorem dX9_near_42 : decode cX9_near 42 = .ok (.iload_n 2, 1) := by decide +kernel
theorem dX9_near_43 : decode cX9_near 43 = .ok (.invokevirtual 134, 3) := by decide +kernel
theorem dX9_near_46 : decode cX9_near 46 = .ok (.goto 12, 3) := by decide +kernel
theorem dX9_near_49 : decode cX9_near 49 = .ok (.aload_n 0, 1) := by decide +kernel
theorem dX9_near_50 : decode cX9_near 50 = .ok (.getfield 31, 3) := by decide +kernel
theorem dX9_near_53 : decode cX9_near 53 = .ok (.iload_n 1, 1) := by decide +kernel
theorem dX9_near_54 : decode cX9_near 54 = .ok (.iload_n 2, 1) := by decide +kernel
theorem dX9_near_55 : decode cX9_near 55 = .ok (.invokevirtual 137, 3) := by decide +kernel
theorem dX9_near_58 : decode cX9_near 58 = .ok (.ireturn, 1) := by decide +kernel
theorem dX9_flips_0 : decode cX9_flips 0 = .ok (.aload_n 0, 1) := by decide +kernel
theorem dX9_flips_1 : decode cX9_flips 1 = .ok (.getfield 19, 3) := by decide +kernel
theorem dX9_flips_4 : decode cX9_flips 4 = .ok (.iload_n 1, 1) := by decide +kernel
theorem dX9_flips_5 : decode cX9_flips 5 = .ok (.iload_n 2, 1) := by decide +kernel
theorem dX9_flips_6 : decode cX9_flips 6 = .ok (.invokevirtual 117, 3) := by decide +kernel
theorem dX9_flips_9 : decode cX9_flips 9 = .ok (.istore_n 3, 1) := by decide +kernel
theorem dX9_flips_10 : decode cX9_flips 10 = .ok (.iload_n 3, 1) := by decide +kernel
theorem dX9_flips_11 : decode cX9_flips 11 = .ok (.iconst (-1), 1) := by decide +kernel
theorem dX9_flips_12 : decode cX9_flips 12 = .ok (.if_icmp .ne 5, 3) := by decide +kernel
theorem dX9_flips_15 : decode cX9_flips 15 = .ok (.iconst (-1), 1) := by decide +kernel
theorem dX9_flips_16 : decode cX9_flips 16 = .ok (.ireturn, 1) := by decide +kernel
theorem dX9_flips_17 : decode cX9_flips 17 = .ok (.aload_n 0, 1) := by decide +kernel
theorem dX9_flips_18 : decode cX9_flips 18 = .ok (.getfield 19, 3) := by decide +kernel
theorem dX9_flips_21 : decode cX9_flips 21 = .ok (.getfield 121, 3) := by decide +kernel
theorem dX9_flips_24 : decode cX9_flips 24 = .ok (.iload_n 3, 1) := by decide +kernel
theorem dX9_flips_25 : decode cX9_flips 25 = .ok (.invokestatic 124, 3) := by decide +kernel
theorem dX9_flips_28 : decode cX9_flips 28 = .ok (.ifCond .eq 6, 3) := by decide +kernel
theorem dX9_flips_31 : decode cX9_flips 31 = .ok (.bipush (-2), 2) := by decide +kernel
theorem dX9_flips_33 : decode cX9_flips 33 = .ok (.ireturn, 1) := by decide +kernel
theorem dX9_flips_34 : decode cX9_flips 34 = .ok (.aload_n 0, 1) := by decide +kernel
theorem dX9_flips_35 : decode cX9_flips 35 = .ok (.getfield 70, 3) := by decide +kernel
theorem dX9_flips_38 : decode cX9_flips 38 = .ok (.aload_n 0, 1) := by decide +kernel
theorem dX9_flips_39 : decode cX9_flips 39 = .ok (.getfield 40, 3) := by decide +kernel
theorem dX9_flips_42 : decode cX9_flips 42 = .ok (.getfield 128, 3) := by decide +kernel
theorem dX9_flips_45 : decode cX9_flips 45 = .ok (.invokevirtual 140, 3) := by decide +kernel
theorem dX9_flips_48 : decode cX9_flips 48 = .ok (.aload_n 0, 1) := by decide +kernel
theorem dX9_flips_49 : decode cX9_flips 49 = .ok (.getfield 40, 3) := by decide +kernel
theorem dX9_flips_52 : decode cX9_flips 52 = .ok (.iload_n 3, 1) := by decide +kernel
theorem dX9_flips_53 : decode cX9_flips 53 = .ok (.invokevirtual 143, 3) := by decide +kernel
theorem dX9_flips_56 : decode cX9_flips 56 = .ok (.aload_n 0, 1) := by decide +kernel
theorem dX9_flips_57 : decode cX9_flips 57 = .ok (.getfield 40, 3) := by decide +kernel
theorem dX9_flips_60 : decode cX9_flips 60 = .ok (.getfield 128, 3) := by decide +kernel
theorem dX9_flips_63 : decode cX9_flips 63 = .ok (.iload_n 3, 1) := by decide +kernel
theorem dX9_flips_64 : decode cX9_flips 64 = .ok (.invokestatic 124, 3) := by decide +kernel
theorem dX9_flips_67 : decode cX9_flips 67 = .ok (.ifCond .eq 7, 3) := by decide +kernel
theorem dX9_flips_70 : decode cX9_flips 70 = .ok (.iconst 1, 1) := by decide +kernel
theorem dX9_flips_71 : decode cX9_flips 71 = .ok (.goto 4, 3) := by decide +kernel
theorem dX9_flips_74 : decode cX9_flips 74 = .ok (.iconst 0, 1) := by decide +kernel
theorem dX9_flips_75 : decode cX9_flips 75 = .ok (.ireturn, 1) := by decide +kernel
theorem dX9_rests_0 : decode cX9_rests 0 = .ok (.iload_n 1, 1) := by decide +kernel
theorem dX9_rests_1 : decode cX9_rests 1 = .ok (.iconst 1, 1) := by decide +kernel
theorem dX9_rests_2 : decode cX9_rests 2 = .ok (.if_icmp .lt 9, 3) := by decide +kernel
theorem dX9_rests_5 : decode cX9_rests 5 = .ok (.iload_n 1, 1) := by decide +kernel
theorem dX9_rests_6 : decode cX9_rests 6 = .ok (.bipush 64, 2) := by decide +kernel
theorem dX9_rests_8 : decode cX9_rests 8 = .ok (.if_icmp .le 5, 3) := by decide +kernel
theorem dX9_rests_11 : decode cX9_rests 11 = .ok (.iconst (-1), 1) := by decide +kernel
theorem dX9_rests_12 : decode cX9_rests 12 = .ok (.ireturn, 1) := by decide +kernel
theorem dX9_rests_13 : decode cX9_rests 13 = .ok (.aload_n 0, 1) := by decide +kernel
theorem dX9_rests_14 : decode cX9_rests 14 = .ok (.invokevirtual 147, 3) := by decide +kernel
theorem dX9_rests_17 : decode cX9_rests 17 = .ok (.ifCond .eq 6, 3) := by decide +kernel
theorem dX9_rests_20 : decode cX9_rests 20 = .ok (.bipush (-2), 2) := by decide +kernel
theorem dX9_rests_22 : decode cX9_rests 22 = .ok (.ireturn, 1) := by decide +kernel
theorem dX9_rests_23 : decode cX9_rests 23 = .ok (.aload_n 0, 1) := by decide +kernel
theorem dX9_rests_24 : decode cX9_rests 24 = .ok (.getfield 70, 3) := by decide +kernel
theorem dX9_rests_27 : decode cX9_rests 27 = .ok (.aload_n 0, 1) := by decide +kernel
theorem dX9_rests_28 : decode cX9_rests 28 = .ok (.getfield 40, 3) := by decide +kernel
theorem dX9_rests_31 : decode cX9_rests 31 = .ok (.getfield 128, 3) := by decide +kernel
theorem dX9_rests_34 : decode cX9_rests 34 = .ok (.invokevirtual 140, 3) := by decide +kernel
theorem dX9_rests_37 : decode cX9_rests 37 = .ok (.iconst 0, 1) := by decide +kernel
theorem dX9_rests_38 : decode cX9_rests 38 = .ok (.istore_n 2, 1) := by decide +kernel
theorem dX9_rests_39 : decode cX9_rests 39 = .ok (.iload_n 2, 1) := by decide +kernel
theorem dX9_rests_40 : decode cX9_rests 40 = .ok (.iload_n 1, 1) := by decide +kernel
theorem dX9_rests_41 : decode cX9_rests 41 = .ok (.if_icmp .ge 16, 3) := by decide +kernel
theorem dX9_rests_44 : decode cX9_rests 44 = .ok (.aload_n 0, 1) := by decide +kernel
theorem dX9_rests_45 : decode cX9_rests 45 = .ok (.invokevirtual 151, 3) := by decide +kernel
theorem dX9_rests_48 : decode cX9_rests 48 = .ok (.ifCond .eq 9, 3) := by decide +kernel
theorem dX9_rests_51 : decode cX9_rests 51 = .ok (.iinc 2 1, 3) := by decide +kernel
theorem dX9_rests_54 : decode cX9_rests 54 = .ok (.goto (-15), 3) := by decide +kernel
theorem dX9_rests_57 : decode cX9_rests 57 = .ok (.iload_n 2, 1) := by decide +kernel
theorem dX9_rests_58 : decode cX9_rests 58 = .ok (.ireturn, 1) := by decide +kernel
theorem dX9_moves_0 : decode cX9_moves 0 = .ok (.aload_n 0, 1) := by decide +kernel
theorem dX9_moves_1 : decode cX9_moves 1 = .ok (.getfield 31, 3) := by decide +kernel
theorem dX9_moves_4 : decode cX9_moves 4 = .ok (.iload_n 1, 1) := by decide +kernel
theorem dX9_moves_5 : decode cX9_moves 5 = .ok (.invokevirtual 131, 3) := by decide +kernel
theorem dX9_moves_8 : decode cX9_moves 8 = .ok (.ifCond .eq 14, 3) := by decide +kernel
theorem dX9_moves_11 : decode cX9_moves 11 = .ok (.aload_n 0, 1) := by decide +kernel
theorem dX9_moves_12 : decode cX9_moves 12 = .ok (.getfield 31, 3) := by decide +kernel
theorem dX9_moves_15 : decode cX9_moves 15 = .ok (.iload_n 2, 1) := by decide +kernel
theorem dX9_moves_16 : decode cX9_moves 16 = .ok (.invokevirtual 131, 3) := by decide +kernel
theorem dX9_moves_19 : decode cX9_moves 19 = .ok (.ifCond .ne 5, 3) := by decide +kernel
theorem dX9_moves_22 : decode cX9_moves 22 = .ok (.iconst (-1), 1) := by decide +kernel
theorem dX9_moves_23 : decode cX9_moves 23 = .ok (.ireturn, 1) := by decide +kernel
theorem dX9_moves_24 : decode cX9_moves 24 = .ok (.aload_n 0, 1) := by decide +kernel
theorem dX9_moves_25 : decode cX9_moves 25 = .ok (.getfield 40, 3) := by decide +kernel
theorem dX9_moves_28 : decode cX9_moves 28 = .ok (.getfield 128, 3) := by decide +kernel
theorem dX9_moves_31 : decode cX9_moves 31 = .ok (.iload_n 1, 1) := by decide +kernel
theorem dX9_moves_32 : decode cX9_moves 32 = .ok (.invokestatic 124, 3) := by decide +kernel
theorem dX9_moves_35 : decode cX9_moves 35 = .ok (.ifCond .eq 14, 3) := by decide +kernel
theorem dX9_moves_38 : decode cX9_moves 38 = .ok (.aload_n 0, 1) := by decide +kernel
theorem dX9_moves_39 : decode cX9_moves 39 = .ok (.invokevirtual 154, 3) := by decide +kernel
theorem dX9_moves_42 : decode cX9_moves 42 = .ok (.iload_n 2, 1) := by decide +kernel
theorem dX9_moves_43 : decode cX9_moves 43 = .ok (.invokestatic 124, 3) := by decide +kernel
theorem dX9_moves_46 : decode cX9_moves 46 = .ok (.ifCond .ne 6, 3) := by decide +kernel
theorem dX9_moves_49 : decode cX9_moves 49 = .ok (.bipush (-2), 2) := by decide +kernel
theorem dX9_moves_51 : decode cX9_moves 51 = .ok (.ireturn, 1) := by decide +kernel
theorem dX9_moves_52 : decode cX9_moves 52 = .ok (.aload_n 0, 1) := by decide +kernel
theorem dX9_moves_53 : decode cX9_moves 53 = .ok (.getfield 70, 3) := by decide +kernel
theorem dX9_moves_56 : decode cX9_moves 56 = .ok (.aload_n 0, 1) := by decide +kernel
theorem dX9_moves_57 : decode cX9_moves 57 = .ok (.getfield 40, 3) := by decide +kernel
theorem dX9_moves_60 : decode cX9_moves 60 = .ok (.getfield 128, 3) := by decide +kernel
theorem dX9_moves_63 : decode cX9_moves 63 = .ok (.invokevirtual 140, 3) := by decide +kernel
theorem dX9_moves_66 : decode cX9_moves 66 = .ok (.aload_n 0, 1) := by decide +kernel
theorem dX9_moves_67 : decode cX9_moves 67 = .ok (.getfield 40, 3) := by decide +kernel
theorem dX9_moves_70 : decode cX9_moves 70 = .ok (.invokevirtual 158, 3) := by decide +kernel
theorem dX9_moves_73 : decode cX9_moves 73 = .ok (.istore_n 3, 1) := by decide +kernel
theorem dX9_moves_74 : decode cX9_moves 74 = .ok (.aload_n 0, 1) := by decide +kernel
theorem dX9_moves_75 : decode cX9_moves 75 = .ok (.getfield 40, 3) := by decide +kernel
theorem dX9_moves_78 : decode cX9_moves 78 = .ok (.iload_n 1, 1) := by decide +kernel
theorem dX9_moves_79 : decode cX9_moves 79 = .ok (.invokevirtual 143, 3) := by decide +kernel
theorem dX9_moves_82 : decode cX9_moves 82 = .ok (.aload_n 0, 1) := by decide +kernel
theorem dX9_moves_83 : decode cX9_moves 83 = .ok (.getfield 40, 3) := by decide +kernel
theorem dX9_moves_86 : decode cX9_moves 86 = .ok (.iload_n 2, 1) := by decide +kernel
theorem dX9_moves_87 : decode cX9_moves 87 = .ok (.invokevirtual 143, 3) := by decide +kernel
theorem dX9_moves_90 : decode cX9_moves 90 = .ok (.aload_n 0, 1) := by decide +kernel
theorem dX9_moves_91 : decode cX9_moves 91 = .ok (.getfield 40, 3) := by decide +kernel
theorem dX9_moves_94 : decode cX9_moves 94 = .ok (.invokevirtual 158, 3) := by decide +kernel
theorem dX9_moves_97 : decode cX9_moves 97 = .ok (.iload_n 3, 1) := by decide +kernel
theorem dX9_moves_98 : decode cX9_moves 98 = .ok (.isub, 1) := by decide +kernel
theorem dX9_moves_99 : decode cX9_moves 99 = .ok (.ireturn, 1) := by decide +kernel
theorem dX9_undo_0 : decode cX9_undo 0 = .ok (.aload_n 0, 1) := by decide +kernel
theorem dX9_undo_1 : decode cX9_undo 1 = .ok (.getfield 70, 3) := by decide +kernel
theorem dX9_undo_4 : decode cX9_undo 4 = .ok (.getfield 115, 3) := by decide +kernel
theorem dX9_undo_7 : decode cX9_undo 7 = .ok (.ifCond .ne 6, 3) := by decide +kernel
theorem dX9_undo_10 : decode cX9_undo 10 = .ok (.bipush (-2), 2) := by decide +kernel
theorem dX9_undo_12 : decode cX9_undo 12 = .ok (.ireturn, 1) := by decide +kernel
theorem dX9_undo_13 : decode cX9_undo 13 = .ok (.aload_n 0, 1) := by decide +kernel
theorem dX9_undo_14 : decode cX9_undo 14 = .ok (.getfield 40, 3) := by decide +kernel
theorem dX9_undo_17 : decode cX9_undo 17 = .ok (.aload_n 0, 1) := by decide +kernel
theorem dX9_undo_18 : decode cX9_undo 18 = .ok (.getfield 70, 3) := by decide +kernel
theorem dX9_undo_21 : decode cX9_undo 21 = .ok (.invokevirtual 162, 3) := by decide +kernel
theorem dX9_undo_24 : decode cX9_undo 24 = .ok (.invokevirtual 165, 3) := by decide +kernel
theorem dX9_undo_27 : decode cX9_undo 27 = .ok (.aload_n 0, 1) := by decide +kernel
theorem dX9_undo_28 : decode cX9_undo 28 = .ok (.getfield 70, 3) := by decide +kernel
theorem dX9_undo_31 : decode cX9_undo 31 = .ok (.getfield 115, 3) := by decide +kernel
theorem dX9_undo_34 : decode cX9_undo 34 = .ok (.ireturn, 1) := by decide +kernel
theorem dX9_held_0 : decode cX9_held 0 = .ok (.aload_n 0, 1) := by decide +kernel
theorem dX9_held_1 : decode cX9_held 1 = .ok (.getfield 19, 3) := by decide +kernel
theorem dX9_held_4 : decode cX9_held 4 = .ok (.iload_n 1, 1) := by decide +kernel
theorem dX9_held_5 : decode cX9_held 5 = .ok (.iload_n 2, 1) := by decide +kernel
theorem dX9_held_6 : decode cX9_held 6 = .ok (.invokevirtual 117, 3) := by decide +kernel
theorem dX9_held_9 : decode cX9_held 9 = .ok (.istore_n 3, 1) := by decide +kernel
theorem dX9_held_10 : decode cX9_held 10 = .ok (.iload_n 3, 1) := by decide +kernel
theorem dX9_held_11 : decode cX9_held 11 = .ok (.iconst (-1), 1) := by decide +kernel
theorem dX9_held_12 : decode cX9_held 12 = .ok (.if_icmp .ne 7, 3) := by decide +kernel
theorem dX9_held_15 : decode cX9_held 15 = .ok (.iconst (-1), 1) := by decide +kernel
theorem dX9_held_16 : decode cX9_held 16 = .ok (.goto 11, 3) := by decide +kernel
theorem dX9_held_19 : decode cX9_held 19 = .ok (.aload_n 0, 1) := by decide +kernel
theorem dX9_held_20 : decode cX9_held 20 = .ok (.getfield 40, 3) := by decide +kernel
theorem dX9_held_23 : decode cX9_held 23 = .ok (.iload_n 3, 1) := by decide +kernel
theorem dX9_held_24 : decode cX9_held 24 = .ok (.invokevirtual 167, 3) := by decide +kernel
theorem dX9_held_27 : decode cX9_held 27 = .ok (.ireturn, 1) := by decide +kernel
theorem dX9_extreme_0 : decode cX9_extreme 0 = .ok (.iload_n 1, 1) := by decide +kernel
theorem dX9_extreme_1 : decode cX9_extreme 1 = .ok (.ifCond .lt 8, 3) := by decide +kernel
theorem dX9_extreme_4 : decode cX9_extreme 4 = .ok (.iload_n 1, 1) := by decide +kernel
theorem dX9_extreme_5 : decode cX9_extreme 5 = .ok (.iconst 1, 1) := by decide +kernel
theorem dX9_extreme_6 : decode cX9_extreme 6 = .ok (.if_icmp .le 5, 3) := by decide +kernel
theorem dX9_extreme_9 : decode cX9_extreme 9 = .ok (.iconst (-1), 1) := by decide +kernel
theorem dX9_extreme_10 : decode cX9_extreme 10 = .ok (.ireturn, 1) := by decide +kernel
theorem dX9_extreme_11 : decode cX9_extreme 11 = .ok (.iload_n 1, 1) := by decide +kernel
theorem dX9_extreme_12 : decode cX9_extreme 12 = .ok (.ifCond .ne 20, 3) := by decide +kernel
theorem dX9_extreme_15 : decode cX9_extreme 15 = .ok (.aload_n 0, 1) := by decide +kernel
theorem dX9_extreme_16 : decode cX9_extreme 16 = .ok (.getfield 40, 3) := by decide +kernel
theorem dX9_extreme_19 : decode cX9_extreme 19 = .ok (.aload_n 0, 1) := by decide +kernel
theorem dX9_extreme_20 : decode cX9_extreme 20 = .ok (.getfield 40, 3) := by decide +kernel
theorem dX9_extreme_23 : decode cX9_extreme 23 = .ok (.getfield 128, 3) := by decide +kernel
theorem dX9_extreme_26 : decode cX9_extreme 26 = .ok (.invokevirtual 171, 3) := by decide +kernel
theorem dX9_extreme_29 : decode cX9_extreme 29 = .ok (.goto 14, 3) := by decide +kernel
theorem dX9_extreme_32 : decode cX9_extreme 32 = .ok (.aload_n 0, 1) := by decide +kernel
theorem dX9_extreme_33 : decode cX9_extreme 33 = .ok (.getfield 40, 3) := by decide +kernel
theorem dX9_extreme_36 : decode cX9_extreme 36 = .ok (.aload_n 0, 1) := by decide +kernel
theorem dX9_extreme_37 : decode cX9_extreme 37 = .ok (.invokevirtual 154, 3) := by decide +kernel
theorem dX9_extreme_40 : decode cX9_extreme 40 = .ok (.invokevirtual 175, 3) := by decide +kernel
theorem dX9_extreme_43 : decode cX9_extreme 43 = .ok (.istore_n 2, 1) := by decide +kernel
theorem dX9_extreme_44 : decode cX9_extreme 44 = .ok (.iload_n 2, 1) := by decide +kernel
theorem dX9_extreme_45 : decode cX9_extreme 45 = .ok (.iconst (-1), 1) := by decide +kernel
theorem dX9_extreme_46 : decode cX9_extreme 46 = .ok (.if_icmp .ne 8, 3) := by decide +kernel
theorem dX9_extreme_49 : decode cX9_extreme 49 = .ok (.bipush (-9), 2) := by decide +kernel
theorem dX9_extreme_51 : decode cX9_extreme 51 = .ok (.goto 4, 3) := by decide +kernel
theorem dX9_extreme_54 : decode cX9_extreme 54 = .ok (.iload_n 2, 1) := by decide +kernel
theorem dX9_extreme_55 : decode cX9_extreme 55 = .ok (.ireturn, 1) := by decide +kernel
theorem dX9_energy_0 : decode cX9_energy 0 = .ok (.aload_n 0, 1) := by decide +kernel
theorem dX9_energy_1 : decode cX9_energy 1 = .ok (.getfield 40, 3) := by decide +kernel
theorem dX9_energy_4 : decode cX9_energy 4 = .ok (.invokevirtual 158, 3) := by decide +kernel
theorem dX9_energy_7 : decode cX9_energy 7 = .ok (.ireturn, 1) := by decide +kernel
theorem dX9_better_0 : decode cX9_better 0 = .ok (.iload_n 1, 1) := by decide +kernel
theorem dX9_better_1 : decode cX9_better 1 = .ok (.ifCond .lt 8, 3) := by decide +kernel
theorem dX9_better_4 : decode cX9_better 4 = .ok (.iload_n 1, 1) := by decide +kernel
theorem dX9_better_5 : decode cX9_better 5 = .ok (.iconst 2, 1) := by decide +kernel
theorem dX9_better_6 : decode cX9_better 6 = .ok (.if_icmp .le 5, 3) := by decide +kernel
theorem dX9_better_9 : decode cX9_better 9 = .ok (.iconst (-1), 1) := by decide +kernel
theorem dX9_better_10 : decode cX9_better 10 = .ok (.ireturn, 1) := by decide +kernel
theorem dX9_better_11 : decode cX9_better 11 = .ok (.aload_n 0, 1) := by decide +kernel
theorem dX9_better_12 : decode cX9_better 12 = .ok (.invokevirtual 178, 3) := by decide +kernel
theorem dX9_better_15 : decode cX9_better 15 = .ok (.istore_n 2, 1) := by decide +kernel
theorem dX9_better_16 : decode cX9_better 16 = .ok (.iload_n 2, 1) := by decide +kernel
theorem dX9_better_17 : decode cX9_better 17 = .ok (.iconst (-1), 1) := by decide +kernel
theorem dX9_better_18 : decode cX9_better 18 = .ok (.if_icmp .ne 14, 3) := by decide +kernel
theorem dX9_better_21 : decode cX9_better 21 = .ok (.iload_n 1, 1) := by decide +kernel
theorem dX9_better_22 : decode cX9_better 22 = .ok (.ifCond .ne 7, 3) := by decide +kernel
theorem dX9_better_25 : decode cX9_better 25 = .ok (.iconst 0, 1) := by decide +kernel
theorem dX9_better_26 : decode cX9_better 26 = .ok (.goto 5, 3) := by decide +kernel
theorem dX9_better_29 : decode cX9_better 29 = .ok (.bipush (-9), 2) := by decide +kernel
theorem dX9_better_31 : decode cX9_better 31 = .ok (.ireturn, 1) := by decide +kernel
theorem dX9_better_32 : decode cX9_better 32 = .ok (.iload_n 2, 1) := by decide +kernel
theorem dX9_better_33 : decode cX9_better 33 = .ok (.bipush 64, 2) := by decide +kernel
theorem dX9_better_35 : decode cX9_better 35 = .ok (.idiv, 1) := by decide +kernel
theorem dX9_better_36 : decode cX9_better 36 = .ok (.istore_n 3, 1) := by decide +kernel
theorem dX9_better_37 : decode cX9_better 37 = .ok (.iload_n 2, 1) := by decide +kernel
theorem dX9_better_38 : decode cX9_better 38 = .ok (.bipush 64, 2) := by decide +kernel
theorem dX9_better_40 : decode cX9_better 40 = .ok (.irem, 1) := by decide +kernel
theorem dX9_better_41 : decode cX9_better 41 = .ok (.istore 4, 2) := by decide +kernel
theorem dX9_better_43 : decode cX9_better 43 = .ok (.iload_n 1, 1) := by decide +kernel
theorem dX9_better_44 : decode cX9_better 44 = .ok (.ifCond .ne 11, 3) := by decide +kernel
theorem dX9_better_47 : decode cX9_better 47 = .ok (.aload_n 0, 1) := by decide +kernel
theorem dX9_better_48 : decode cX9_better 48 = .ok (.iload_n 3, 1) := by decide +kernel
theorem dX9_better_49 : decode cX9_better 49 = .ok (.iload 4, 2) := by decide +kernel
theorem dX9_better_51 : decode cX9_better 51 = .ok (.invokevirtual 181, 3) := by decide +kernel
theorem dX9_better_54 : decode cX9_better 54 = .ok (.ireturn, 1) := by decide +kernel
theorem dX9_better_55 : decode cX9_better 55 = .ok (.iload_n 1, 1) := by decide +kernel
theorem dX9_better_56 : decode cX9_better 56 = .ok (.iconst 1, 1) := by decide +kernel
theorem dX9_better_57 : decode cX9_better 57 = .ok (.if_icmp .ne 7, 3) := by decide +kernel
theorem dX9_better_60 : decode cX9_better 60 = .ok (.iload_n 3, 1) := by decide +kernel
theorem dX9_better_61 : decode cX9_better 61 = .ok (.goto 5, 3) := by decide +kernel
theorem dX9_better_64 : decode cX9_better 64 = .ok (.iload 4, 2) := by decide +kernel
theorem dX9_better_66 : decode cX9_better 66 = .ok (.ireturn, 1) := by decide +kernel
theorem dX9_shifts_0 : decode cX9_shifts 0 = .ok (.iconst 0, 1) := by decide +kernel
theorem dX9_shifts_1 : decode cX9_shifts 1 = .ok (.istore_n 1, 1) := by decide +kernel
theorem dX9_shifts_2 : decode cX9_shifts 2 = .ok (.iconst 0, 1) := by decide +kernel
theorem dX9_shifts_3 : decode cX9_shifts 3 = .ok (.istore_n 2, 1) := by decide +kernel
theorem dX9_shifts_4 : decode cX9_shifts 4 = .ok (.iload_n 2, 1) := by decide +kernel
theorem dX9_shifts_5 : decode cX9_shifts 5 = .ok (.aload_n 0, 1) := by decide +kernel
theorem dX9_shifts_6 : decode cX9_shifts 6 = .ok (.getfield 19, 3) := by decide +kernel
theorem dX9_shifts_9 : decode cX9_shifts 9 = .ok (.getfield 184, 3) := by decide +kernel
theorem dX9_shifts_12 : decode cX9_shifts 12 = .ok (.if_icmp .ge 69, 3) := by decide +kernel
theorem dX9_shifts_15 : decode cX9_shifts 15 = .ok (.iconst 0, 1) := by decide +kernel
theorem dX9_shifts_16 : decode cX9_shifts 16 = .ok (.istore_n 3, 1) := by decide +kernel
theorem dX9_shifts_17 : decode cX9_shifts 17 = .ok (.iload_n 3, 1) := by decide +kernel
theorem dX9_shifts_18 : decode cX9_shifts 18 = .ok (.aload_n 0, 1) := by decide +kernel
theorem dX9_shifts_19 : decode cX9_shifts 19 = .ok (.getfield 19, 3) := by decide +kernel
theorem dX9_shifts_22 : decode cX9_shifts 22 = .ok (.getfield 187, 3) := by decide +kernel
theorem dX9_shifts_25 : decode cX9_shifts 25 = .ok (.if_icmp .ge 50, 3) := by decide +kernel
theorem dX9_shifts_28 : decode cX9_shifts 28 = .ok (.aload_n 0, 1) := by decide +kernel
theorem dX9_shifts_29 : decode cX9_shifts 29 = .ok (.getfield 31, 3) := by decide +kernel
theorem dX9_shifts_32 : decode cX9_shifts 32 = .ok (.aload_n 0, 1) := by decide +kernel
theorem dX9_shifts_33 : decode cX9_shifts 33 = .ok (.getfield 40, 3) := by decide +kernel
theorem dX9_shifts_36 : decode cX9_shifts 36 = .ok (.getfield 128, 3) := by decide +kernel
theorem dX9_shifts_39 : decode cX9_shifts 39 = .ok (.iload_n 3, 1) := by decide +kernel
theorem dX9_shifts_40 : decode cX9_shifts 40 = .ok (.iload_n 2, 1) := by decide +kernel
theorem dX9_shifts_41 : decode cX9_shifts 41 = .ok (.invokevirtual 190, 3) := by decide +kernel
theorem dX9_shifts_44 : decode cX9_shifts 44 = .ok (.ifCond .eq 25, 3) := by decide +kernel
theorem dX9_shifts_47 : decode cX9_shifts 47 = .ok (.aload_n 0, 1) := by decide +kernel
theorem dX9_shifts_48 : decode cX9_shifts 48 = .ok (.getfield 31, 3) := by decide +kernel
theorem dX9_shifts_51 : decode cX9_shifts 51 = .ok (.aload_n 0, 1) := by decide +kernel
theorem dX9_shifts_52 : decode cX9_shifts 52 = .ok (.getfield 19, 3) := by decide +kernel
theorem dX9_shifts_55 : decode cX9_shifts 55 = .ok (.getfield 121, 3) := by decide +kernel
theorem dX9_shifts_58 : decode cX9_shifts 58 = .ok (.iload_n 3, 1) := by decide +kernel
theorem dX9_shifts_59 : decode cX9_shifts 59 = .ok (.iload_n 2, 1) := by decide +kernel
theorem dX9_shifts_60 : decode cX9_shifts 60 = .ok (.invokevirtual 190, 3) := by decide +kernel
theorem dX9_shifts_63 : decode cX9_shifts 63 = .ok (.ifCond .eq 6, 3) := by decide +kernel
theorem dX9_shifts_66 : decode cX9_shifts 66 = .ok (.iinc 1 1, 3) := by decide +kernel
theorem dX9_shifts_69 : decode cX9_shifts 69 = .ok (.iinc 3 1, 3) := by decide +kernel
theorem dX9_shifts_72 : decode cX9_shifts 72 = .ok (.goto (-55), 3) := by decide +kernel
theorem dX9_shifts_75 : decode cX9_shifts 75 = .ok (.iinc 2 1, 3) := by decide +kernel
theorem dX9_shifts_78 : decode cX9_shifts 78 = .ok (.goto (-74), 3) := by decide +kernel
theorem dX9_shifts_81 : decode cX9_shifts 81 = .ok (.iload_n 1, 1) := by decide +kernel
theorem dX9_shifts_82 : decode cX9_shifts 82 = .ok (.ireturn, 1) := by decide +kernel
theorem dX9_rank_0 : decode cX9_rank 0 = .ok (.aload_n 0, 1) := by decide +kernel
theorem dX9_rank_1 : decode cX9_rank 1 = .ok (.iload_n 1, 1) := by decide +kernel
theorem dX9_rank_2 : decode cX9_rank 2 = .ok (.iload_n 2, 1) := by decide +kernel
theorem dX9_rank_3 : decode cX9_rank 3 = .ok (.invokevirtual 194, 3) := by decide +kernel
theorem dX9_rank_6 : decode cX9_rank 6 = .ok (.istore_n 3, 1) := by decide +kernel
theorem dX9_rank_7 : decode cX9_rank 7 = .ok (.iload_n 3, 1) := by decide +kernel
theorem dX9_rank_8 : decode cX9_rank 8 = .ok (.ifCond .ge 5, 3) := by decide +kernel
theorem dX9_rank_11 : decode cX9_rank 11 = .ok (.iload_n 3, 1) := by decide +kernel
theorem dX9_rank_12 : decode cX9_rank 12 = .ok (.ireturn, 1) := by decide +kernel
theorem dX9_rank_13 : decode cX9_rank 13 = .ok (.aload_n 0, 1) := by decide +kernel
theorem dX9_rank_14 : decode cX9_rank 14 = .ok (.getfield 19, 3) := by decide +kernel
theorem dX9_rank_17 : decode cX9_rank 17 = .ok (.getfield 121, 3) := by decide +kernel
theorem dX9_rank_20 : decode cX9_rank 20 = .ok (.iload_n 3, 1) := by decide +kernel
theorem dX9_rank_21 : decode cX9_rank 21 = .ok (.invokestatic 124, 3) := by decide +kernel
theorem dX9_rank_24 : decode cX9_rank 24 = .ok (.ifCond .eq 8, 3) := by decide +kernel
theorem dX9_rank_27 : decode cX9_rank 27 = .ok (.bipush (-9), 2) := by decide +kernel
theorem dX9_rank_29 : decode cX9_rank 29 = .ok (.goto 11, 3) := by decide +kernel
theorem dX9_rank_32 : decode cX9_rank 32 = .ok (.aload_n 0, 1) := by decide +kernel
theorem dX9_rank_33 : decode cX9_rank 33 = .ok (.invokevirtual 197, 3) := by decide +kernel
theorem dX9_rank_36 : decode cX9_rank 36 = .ok (.iload_n 3, 1) := by decide +kernel
theorem dX9_rank_37 : decode cX9_rank 37 = .ok (.invokevirtual 201, 3) := by decide +kernel
theorem dX9_rank_40 : decode cX9_rank 40 = .ok (.ireturn, 1) := by decide +kernel
theorem dX9_ranked_0 : decode cX9_ranked 0 = .ok (.iload_n 1, 1) := by decide +kernel
theorem dX9_ranked_1 : decode cX9_ranked 1 = .ok (.ifCond .lt 14, 3) := by decide +kernel
theorem dX9_ranked_4 : decode cX9_ranked 4 = .ok (.iload_n 1, 1) := by decide +kernel
theorem dX9_ranked_5 : decode cX9_ranked 5 = .ok (.aload_n 0, 1) := by decide +kernel
theorem dX9_ranked_6 : decode cX9_ranked 6 = .ok (.getfield 31, 3) := by decide +kernel
theorem dX9_ranked_9 : decode cX9_ranked 9 = .ok (.getfield 204, 3) := by decide +kernel
theorem dX9_ranked_12 : decode cX9_ranked 12 = .ok (.if_icmp .lt 5, 3) := by decide +kernel
theorem dX9_ranked_15 : decode cX9_ranked 15 = .ok (.iconst (-1), 1) := by decide +kernel
theorem dX9_ranked_16 : decode cX9_ranked 16 = .ok (.ireturn, 1) := by decide +kernel
theorem dX9_ranked_17 : decode cX9_ranked 17 = .ok (.aload_n 0, 1) := by decide +kernel
theorem dX9_ranked_18 : decode cX9_ranked 18 = .ok (.invokevirtual 147, 3) := by decide +kernel
theorem dX9_ranked_21 : decode cX9_ranked 21 = .ok (.ifCond .eq 8, 3) := by decide +kernel
theorem dX9_ranked_24 : decode cX9_ranked 24 = .ok (.bipush (-2), 2) := by decide +kernel
theorem dX9_ranked_26 : decode cX9_ranked 26 = .ok (.goto 11, 3) := by decide +kernel
theorem dX9_ranked_29 : decode cX9_ranked 29 = .ok (.aload_n 0, 1) := by decide +kernel
theorem dX9_ranked_30 : decode cX9_ranked 30 = .ok (.invokevirtual 197, 3) := by decide +kernel
theorem dX9_ranked_33 : decode cX9_ranked 33 = .ok (.iload_n 1, 1) := by decide +kernel
theorem dX9_ranked_34 : decode cX9_ranked 34 = .ok (.invokevirtual 207, 3) := by decide +kernel
theorem dX9_ranked_37 : decode cX9_ranked 37 = .ok (.ireturn, 1) := by decide +kernel
theorem dX9_stage_0 : decode cX9_stage 0 = .ok (.aload_n 0, 1) := by decide +kernel
theorem dX9_stage_1 : decode cX9_stage 1 = .ok (.iload_n 1, 1) := by decide +kernel
theorem dX9_stage_2 : decode cX9_stage 2 = .ok (.iload_n 2, 1) := by decide +kernel
theorem dX9_stage_3 : decode cX9_stage 3 = .ok (.invokevirtual 194, 3) := by decide +kernel
theorem dX9_stage_6 : decode cX9_stage 6 = .ok (.istore_n 3, 1) := by decide +kernel
theorem dX9_stage_7 : decode cX9_stage 7 = .ok (.iload_n 3, 1) := by decide +kernel
theorem dX9_stage_8 : decode cX9_stage 8 = .ok (.ifCond .ge 5, 3) := by decide +kernel
theorem dX9_stage_11 : decode cX9_stage 11 = .ok (.iload_n 3, 1) := by decide +kernel
theorem dX9_stage_12 : decode cX9_stage 12 = .ok (.ireturn, 1) := by decide +kernel
theorem dX9_stage_13 : decode cX9_stage 13 = .ok (.aload_n 0, 1) := by decide +kernel
theorem dX9_stage_14 : decode cX9_stage 14 = .ok (.getfield 19, 3) := by decide +kernel
theorem dX9_stage_17 : decode cX9_stage 17 = .ok (.getfield 121, 3) := by decide +kernel
theorem dX9_stage_20 : decode cX9_stage 20 = .ok (.iload_n 3, 1) := by decide +kernel
theorem dX9_stage_21 : decode cX9_stage 21 = .ok (.invokestatic 124, 3) := by decide +kernel
theorem dX9_stage_24 : decode cX9_stage 24 = .ok (.ifCond .eq 8, 3) := by decide +kernel
theorem dX9_stage_27 : decode cX9_stage 27 = .ok (.bipush (-9), 2) := by decide +kernel
theorem dX9_stage_29 : decode cX9_stage 29 = .ok (.goto 11, 3) := by decide +kernel
theorem dX9_stage_32 : decode cX9_stage 32 = .ok (.aload_n 0, 1) := by decide +kernel
theorem dX9_stage_33 : decode cX9_stage 33 = .ok (.invokevirtual 197, 3) := by decide +kernel
theorem dX9_stage_36 : decode cX9_stage 36 = .ok (.iload_n 3, 1) := by decide +kernel
theorem dX9_stage_37 : decode cX9_stage 37 = .ok (.invokevirtual 210, 3) := by decide +kernel
theorem dX9_stage_40 : decode cX9_stage 40 = .ok (.ireturn, 1) := by decide +kernel
theorem dX9_shade_0 : decode cX9_shade 0 = .ok (.iload_n 1, 1) := by decide +kernel
theorem dX9_shade_1 : decode cX9_shade 1 = .ok (.ifCond .lt 23, 3) := by decide +kernel
theorem dX9_shade_4 : decode cX9_shade 4 = .ok (.iload_n 1, 1) := by decide +kernel
theorem dX9_shade_5 : decode cX9_shade 5 = .ok (.aload_n 0, 1) := by decide +kernel
theorem dX9_shade_6 : decode cX9_shade 6 = .ok (.getfield 31, 3) := by decide +kernel
theorem dX9_shade_9 : decode cX9_shade 9 = .ok (.getfield 204, 3) := by decide +kernel
theorem dX9_shade_12 : decode cX9_shade 12 = .ok (.if_icmp .gt 12, 3) := by decide +kernel
theorem dX9_shade_15 : decode cX9_shade 15 = .ok (.iload_n 2, 1) := by decide +kernel
theorem dX9_shade_16 : decode cX9_shade 16 = .ok (.ifCond .lt 8, 3) := by decide +kernel
theorem dX9_shade_19 : decode cX9_shade 19 = .ok (.iload_n 2, 1) := by decide +kernel
theorem dX9_shade_20 : decode cX9_shade 20 = .ok (.iconst 1, 1) := by decide +kernel
theorem dX9_shade_21 : decode cX9_shade 21 = .ok (.if_icmp .le 5, 3) := by decide +kernel
theorem dX9_shade_24 : decode cX9_shade 24 = .ok (.iconst (-1), 1) := by decide +kernel
theorem dX9_shade_25 : decode cX9_shade 25 = .ok (.ireturn, 1) := by decide +kernel
theorem dX9_shade_26 : decode cX9_shade 26 = .ok (.aload_n 0, 1) := by decide +kernel
theorem dX9_shade_27 : decode cX9_shade 27 = .ok (.invokevirtual 147, 3) := by decide +kernel
theorem dX9_shade_30 : decode cX9_shade 30 = .ok (.ifCond .eq 6, 3) := by decide +kernel
theorem dX9_shade_33 : decode cX9_shade 33 = .ok (.bipush (-2), 2) := by decide +kernel
theorem dX9_shade_35 : decode cX9_shade 35 = .ok (.ireturn, 1) := by decide +kernel
theorem dX9_shade_36 : decode cX9_shade 36 = .ok (.iload_n 2, 1) := by decide +kernel
theorem dX9_shade_37 : decode cX9_shade 37 = .ok (.ifCond .ne 14, 3) := by decide +kernel
theorem dX9_shade_40 : decode cX9_shade 40 = .ok (.aload_n 0, 1) := by decide +kernel
theorem dX9_shade_41 : decode cX9_shade 41 = .ok (.invokevirtual 197, 3) := by decide +kernel
theorem dX9_shade_44 : decode cX9_shade 44 = .ok (.iload_n 1, 1) := by decide +kernel
theorem dX9_shade_45 : decode cX9_shade 45 = .ok (.invokevirtual 213, 3) := by decide +kernel
theorem dX9_shade_48 : decode cX9_shade 48 = .ok (.goto 11, 3) := by decide +kernel
theorem dX9_shade_51 : decode cX9_shade 51 = .ok (.aload_n 0, 1) := by decide +kernel
theorem dX9_shade_52 : decode cX9_shade 52 = .ok (.invokevirtual 197, 3) := by decide +kernel
theorem dX9_shade_55 : decode cX9_shade 55 = .ok (.iload_n 1, 1) := by decide +kernel
theorem dX9_shade_56 : decode cX9_shade 56 = .ok (.invokevirtual 216, 3) := by decide +kernel
theorem dX9_shade_59 : decode cX9_shade 59 = .ok (.ireturn, 1) := by decide +kernel
theorem dX9_finest_0 : decode cX9_finest 0 = .ok (.iload_n 1, 1) := by decide +kernel
theorem dX9_finest_1 : decode cX9_finest 1 = .ok (.ifCond .lt 10, 3) := by decide +kernel
theorem dX9_finest_4 : decode cX9_finest 4 = .ok (.iload_n 1, 1) := by decide +kernel
theorem dX9_finest_5 : decode cX9_finest 5 = .ok (.sipush 999, 3) := by decide +kernel
theorem dX9_finest_8 : decode cX9_finest 8 = .ok (.if_icmp .le 5, 3) := by decide +kernel
theorem dX9_finest_11 : decode cX9_finest 11 = .ok (.iconst (-1), 1) := by decide +kernel
theorem dX9_finest_12 : decode cX9_finest 12 = .ok (.ireturn, 1) := by decide +kernel
theorem dX9_finest_13 : decode cX9_finest 13 = .ok (.aload_n 0, 1) := by decide +kernel
theorem dX9_finest_14 : decode cX9_finest 14 = .ok (.invokevirtual 147, 3) := by decide +kernel
theorem dX9_finest_17 : decode cX9_finest 17 = .ok (.ifCond .eq 8, 3) := by decide +kernel
theorem dX9_finest_20 : decode cX9_finest 20 = .ok (.bipush (-2), 2) := by decide +kernel
theorem dX9_finest_22 : decode cX9_finest 22 = .ok (.goto 11, 3) := by decide +kernel
theorem dX9_finest_25 : decode cX9_finest 25 = .ok (.aload_n 0, 1) := by decide +kernel
theorem dX9_finest_26 : decode cX9_finest 26 = .ok (.invokevirtual 197, 3) := by decide +kernel
theorem dX9_finest_29 : decode cX9_finest 29 = .ok (.iload_n 1, 1) := by decide +kernel
theorem dX9_finest_30 : decode cX9_finest 30 = .ok (.invokevirtual 219, 3) := by decide +kernel
theorem dX9_finest_33 : decode cX9_finest 33 = .ok (.ireturn, 1) := by decide +kernel
theorem dX9_paints_0 : decode cX9_paints 0 = .ok (.iload_n 1, 1) := by decide +kernel
theorem dX9_paints_1 : decode cX9_paints 1 = .ok (.ifCond .lt 23, 3) := by decide +kernel
theorem dX9_paints_4 : decode cX9_paints 4 = .ok (.iload_n 1, 1) := by decide +kernel
theorem dX9_paints_5 : decode cX9_paints 5 = .ok (.bipush 64, 2) := by decide +kernel
theorem dX9_paints_7 : decode cX9_paints 7 = .ok (.if_icmp .gt 17, 3) := by decide +kernel
theorem dX9_paints_10 : decode cX9_paints 10 = .ok (.iload_n 2, 1) := by decide +kernel
theorem dX9_paints_11 : decode cX9_paints 11 = .ok (.invokestatic 222, 3) := by decide +kernel
theorem dX9_paints_14 : decode cX9_paints 14 = .ok (.ifCond .eq 10, 3) := by decide +kernel
theorem dX9_paints_17 : decode cX9_paints 17 = .ok (.iload_n 3, 1) := by decide +kernel
theorem dX9_paints_18 : decode cX9_paints 18 = .ok (.invokestatic 222, 3) := by decide +kernel
theorem dX9_paints_21 : decode cX9_paints 21 = .ok (.ifCond .ne 5, 3) := by decide +kernel
theorem dX9_paints_24 : decode cX9_paints 24 = .ok (.iconst (-1), 1) := by decide +kernel
theorem dX9_paints_25 : decode cX9_paints 25 = .ok (.ireturn, 1) := by decide +kernel
theorem dX9_paints_26 : decode cX9_paints 26 = .ok (.aload_n 0, 1) := by decide +kernel
theorem dX9_paints_27 : decode cX9_paints 27 = .ok (.invokevirtual 147, 3) := by decide +kernel
theorem dX9_paints_30 : decode cX9_paints 30 = .ok (.ifCond .eq 6, 3) := by decide +kernel
theorem dX9_paints_33 : decode cX9_paints 33 = .ok (.bipush (-2), 2) := by decide +kernel
theorem dX9_paints_35 : decode cX9_paints 35 = .ok (.ireturn, 1) := by decide +kernel
theorem dX9_paints_36 : decode cX9_paints 36 = .ok (.aload_n 0, 1) := by decide +kernel
theorem dX9_paints_37 : decode cX9_paints 37 = .ok (.getfield 56, 3) := by decide +kernel
theorem dX9_paints_40 : decode cX9_paints 40 = .ok (.iload_n 1, 1) := by decide +kernel
theorem dX9_paints_41 : decode cX9_paints 41 = .ok (.iload_n 2, 1) := by decide +kernel
theorem dX9_paints_42 : decode cX9_paints 42 = .ok (.iload_n 3, 1) := by decide +kernel
theorem dX9_paints_43 : decode cX9_paints 43 = .ok (.invokevirtual 109, 3) := by decide +kernel
theorem dX9_paints_46 : decode cX9_paints 46 = .ok (.aload_n 0, 1) := by decide +kernel
theorem dX9_paints_47 : decode cX9_paints 47 = .ok (.invokevirtual 225, 3) := by decide +kernel
theorem dX9_paints_50 : decode cX9_paints 50 = .ok (.invokevirtual 229, 3) := by decide +kernel
theorem dX9_paints_53 : decode cX9_paints 53 = .ok (.ireturn, 1) := by decide +kernel
theorem dX9_ink_0 : decode cX9_ink 0 = .ok (.aload_n 0, 1) := by decide +kernel
theorem dX9_ink_1 : decode cX9_ink 1 = .ok (.iload_n 1, 1) := by decide +kernel
theorem dX9_ink_2 : decode cX9_ink 2 = .ok (.iload_n 2, 1) := by decide +kernel
theorem dX9_ink_3 : decode cX9_ink 3 = .ok (.invokevirtual 194, 3) := by decide +kernel
theorem dX9_ink_6 : decode cX9_ink 6 = .ok (.istore_n 3, 1) := by decide +kernel
theorem dX9_ink_7 : decode cX9_ink 7 = .ok (.iload_n 3, 1) := by decide +kernel
theorem dX9_ink_8 : decode cX9_ink 8 = .ok (.ifCond .ge 5, 3) := by decide +kernel
theorem dX9_ink_11 : decode cX9_ink 11 = .ok (.iload_n 3, 1) := by decide +kernel
theorem dX9_ink_12 : decode cX9_ink 12 = .ok (.ireturn, 1) := by decide +kernel
theorem dX9_ink_13 : decode cX9_ink 13 = .ok (.aload_n 0, 1) := by decide +kernel
theorem dX9_ink_14 : decode cX9_ink 14 = .ok (.invokevirtual 225, 3) := by decide +kernel
theorem dX9_ink_17 : decode cX9_ink 17 = .ok (.iload_n 3, 1) := by decide +kernel
theorem dX9_ink_18 : decode cX9_ink 18 = .ok (.invokevirtual 232, 3) := by decide +kernel
theorem dX9_ink_21 : decode cX9_ink 21 = .ok (.ifCond .eq 7, 3) := by decide +kernel
theorem dX9_ink_24 : decode cX9_ink 24 = .ok (.iconst 1, 1) := by decide +kernel
theorem dX9_ink_25 : decode cX9_ink 25 = .ok (.goto 4, 3) := by decide +kernel
theorem dX9_ink_28 : decode cX9_ink 28 = .ok (.iconst 0, 1) := by decide +kernel
theorem dX9_ink_29 : decode cX9_ink 29 = .ok (.ireturn, 1) := by decide +kernel
theorem dX9_off_0 : decode cX9_off 0 = .ok (.aload_n 0, 1) := by decide +kernel
theorem dX9_off_1 : decode cX9_off 1 = .ok (.invokevirtual 147, 3) := by decide +kernel
theorem dX9_off_4 : decode cX9_off 4 = .ok (.ifCond .eq 8, 3) := by decide +kernel
theorem dX9_off_7 : decode cX9_off 7 = .ok (.bipush (-2), 2) := by decide +kernel
theorem dX9_off_9 : decode cX9_off 9 = .ok (.goto 10, 3) := by decide +kernel
theorem dX9_off_12 : decode cX9_off 12 = .ok (.aload_n 0, 1) := by decide +kernel
theorem dX9_off_13 : decode cX9_off 13 = .ok (.invokevirtual 225, 3) := by decide +kernel
theorem dX9_off_16 : decode cX9_off 16 = .ok (.invokevirtual 235, 3) := by decide +kernel
theorem dX9_off_19 : decode cX9_off 19 = .ok (.ireturn, 1) := by decide +kernel
theorem dX9_sees_0 : decode cX9_sees 0 = .ok (.aload_n 0, 1) := by decide +kernel
theorem dX9_sees_1 : decode cX9_sees 1 = .ok (.iload_n 1, 1) := by decide +kernel
theorem dX9_sees_2 : decode cX9_sees 2 = .ok (.invokevirtual 238, 3) := by decide +kernel
theorem dX9_sees_5 : decode cX9_sees 5 = .ok (.ifCond .eq 13, 3) := by decide +kernel
theorem dX9_sees_8 : decode cX9_sees 8 = .ok (.iload_n 2, 1) := by decide +kernel
theorem dX9_sees_9 : decode cX9_sees 9 = .ok (.ifCond .lt 9, 3) := by decide +kernel
theorem dX9_sees_12 : decode cX9_sees 12 = .ok (.iload_n 2, 1) := by decide +kernel
theorem dX9_sees_13 : decode cX9_sees 13 = .ok (.bipush 8, 2) := by decide +kernel
theorem dX9_sees_15 : decode cX9_sees 15 = .ok (.if_icmp .le 5, 3) := by decide +kernel
theorem dX9_sees_18 : decode cX9_sees 18 = .ok (.iconst (-1), 1) := by decide +kernel
theorem dX9_sees_19 : decode cX9_sees 19 = .ok (.ireturn, 1) := by decide +kernel
theorem dX9_sees_20 : decode cX9_sees 20 = .ok (.aload_n 0, 1) := by decide +kernel
theorem dX9_sees_21 : decode cX9_sees 21 = .ok (.getfield 63, 3) := by decide +kernel
theorem dX9_sees_24 : decode cX9_sees 24 = .ok (.iload_n 1, 1) := by decide +kernel
theorem dX9_sees_25 : decode cX9_sees 25 = .ok (.iload_n 2, 1) := by decide +kernel
theorem dX9_sees_26 : decode cX9_sees 26 = .ok (.invokevirtual 241, 3) := by decide +kernel
theorem dX9_sees_29 : decode cX9_sees 29 = .ok (.ifCond .eq 13, 3) := by decide +kernel
theorem dX9_sees_32 : decode cX9_sees 32 = .ok (.aload_n 0, 1) := by decide +kernel
theorem dX9_sees_33 : decode cX9_sees 33 = .ok (.getfield 63, 3) := by decide +kernel
theorem dX9_sees_36 : decode cX9_sees 36 = .ok (.getfield 112, 3) := by decide +kernel
theorem dX9_sees_39 : decode cX9_sees 39 = .ok (.goto 5, 3) := by decide +kernel
theorem dX9_sees_42 : decode cX9_sees 42 = .ok (.bipush (-3), 2) := by decide +kernel
theorem dX9_sees_44 : decode cX9_sees 44 = .ok (.ireturn, 1) := by decide +kernel
theorem dX9_forget_0 : decode cX9_forget 0 = .ok (.aload_n 0, 1) := by decide +kernel
theorem dX9_forget_1 : decode cX9_forget 1 = .ok (.getfield 63, 3) := by decide +kernel
theorem dX9_forget_4 : decode cX9_forget 4 = .ok (.getfield 112, 3) := by decide +kernel
theorem dX9_forget_7 : decode cX9_forget 7 = .ok (.istore_n 1, 1) := by decide +kernel
theorem dX9_forget_8 : decode cX9_forget 8 = .ok (.aload_n 0, 1) := by decide +kernel
theorem dX9_forget_9 : decode cX9_forget 9 = .ok (.getfield 63, 3) := by decide +kernel
theorem dX9_forget_12 : decode cX9_forget 12 = .ok (.iconst 0, 1) := by decide +kernel
theorem dX9_forget_13 : decode cX9_forget 13 = .ok (.putfield 112, 3) := by decide +kernel
theorem dX9_forget_16 : decode cX9_forget 16 = .ok (.iload_n 1, 1) := by decide +kernel
theorem dX9_forget_17 : decode cX9_forget 17 = .ok (.ireturn, 1) := by decide +kernel
theorem dX9_unseen_0 : decode cX9_unseen 0 = .ok (.iload_n 1, 1) := by decide +kernel
theorem dX9_unseen_1 : decode cX9_unseen 1 = .ok (.ifCond .lt 8, 3) := by decide +kernel
theorem dX9_unseen_4 : decode cX9_unseen 4 = .ok (.iload_n 1, 1) := by decide +kernel
theorem dX9_unseen_5 : decode cX9_unseen 5 = .ok (.iconst 2, 1) := by decide +kernel
theorem dX9_unseen_6 : decode cX9_unseen 6 = .ok (.if_icmp .le 5, 3) := by decide +kernel
theorem dX9_unseen_9 : decode cX9_unseen 9 = .ok (.iconst (-1), 1) := by decide +kernel
theorem dX9_unseen_10 : decode cX9_unseen 10 = .ok (.ireturn, 1) := by decide +kernel
theorem dX9_unseen_11 : decode cX9_unseen 11 = .ok (.aload_n 0, 1) := by decide +kernel
theorem dX9_unseen_12 : decode cX9_unseen 12 = .ok (.invokevirtual 147, 3) := by decide +kernel
theorem dX9_unseen_15 : decode cX9_unseen 15 = .ok (.ifCond .eq 6, 3) := by decide +kernel
theorem dX9_unseen_18 : decode cX9_unseen 18 = .ok (.bipush (-2), 2) := by decide +kernel
theorem dX9_unseen_20 : decode cX9_unseen 20 = .ok (.ireturn, 1) := by decide +kernel
theorem dX9_unseen_21 : decode cX9_unseen 21 = .ok (.aload_n 0, 1) := by decide +kernel
theorem dX9_unseen_22 : decode cX9_unseen 22 = .ok (.invokevirtual 197, 3) := by decide +kernel
theorem dX9_unseen_25 : decode cX9_unseen 25 = .ok (.pop, 1) := by decide +kernel
theorem dX9_unseen_26 : decode cX9_unseen 26 = .ok (.iload_n 1, 1) := by decide +kernel
theorem dX9_unseen_27 : decode cX9_unseen 27 = .ok (.ifCond .ne 11, 3) := by decide +kernel
theorem dX9_unseen_30 : decode cX9_unseen 30 = .ok (.aload_n 0, 1) := by decide +kernel
theorem dX9_unseen_31 : decode cX9_unseen 31 = .ok (.getfield 63, 3) := by decide +kernel
theorem dX9_unseen_34 : decode cX9_unseen 34 = .ok (.invokevirtual 244, 3) := by decide +kernel
theorem dX9_unseen_37 : decode cX9_unseen 37 = .ok (.ireturn, 1) := by decide +kernel
theorem dX9_unseen_38 : decode cX9_unseen 38 = .ok (.iload_n 1, 1) := by decide +kernel
theorem dX9_unseen_39 : decode cX9_unseen 39 = .ok (.iconst 1, 1) := by decide +kernel
theorem dX9_unseen_40 : decode cX9_unseen 40 = .ok (.if_icmp .ne 13, 3) := by decide +kernel
theorem dX9_unseen_43 : decode cX9_unseen 43 = .ok (.aload_n 0, 1) := by decide +kernel
theorem dX9_unseen_44 : decode cX9_unseen 44 = .ok (.getfield 63, 3) := by decide +kernel
theorem dX9_unseen_47 : decode cX9_unseen 47 = .ok (.invokevirtual 247, 3) := by decide +kernel
theorem dX9_unseen_50 : decode cX9_unseen 50 = .ok (.goto 10, 3) := by decide +kernel
theorem dX9_unseen_53 : decode cX9_unseen 53 = .ok (.aload_n 0, 1) := by decide +kernel
theorem dX9_unseen_54 : decode cX9_unseen 54 = .ok (.getfield 63, 3) := by decide +kernel
theorem dX9_unseen_57 : decode cX9_unseen 57 = .ok (.invokevirtual 250, 3) := by decide +kernel
theorem dX9_unseen_60 : decode cX9_unseen 60 = .ok (.ireturn, 1) := by decide +kernel
theorem dX9_keep_0 : decode cX9_keep 0 = .ok (.aload_n 0, 1) := by decide +kernel
theorem dX9_keep_1 : decode cX9_keep 1 = .ok (.getfield 77, 3) := by decide +kernel
theorem dX9_keep_4 : decode cX9_keep 4 = .ok (.iload_n 1, 1) := by decide +kernel
theorem dX9_keep_5 : decode cX9_keep 5 = .ok (.invokevirtual 253, 3) := by decide +kernel
theorem dX9_keep_8 : decode cX9_keep 8 = .ok (.ifCond .ne 5, 3) := by decide +kernel
theorem dX9_keep_11 : decode cX9_keep 11 = .ok (.iconst (-1), 1) := by decide +kernel
theorem dX9_keep_12 : decode cX9_keep 12 = .ok (.ireturn, 1) := by decide +kernel
theorem dX9_keep_13 : decode cX9_keep 13 = .ok (.aload_n 0, 1) := by decide +kernel
theorem dX9_keep_14 : decode cX9_keep 14 = .ok (.getfield 77, 3) := by decide +kernel
theorem dX9_keep_17 : decode cX9_keep 17 = .ok (.iload_n 1, 1) := by decide +kernel
theorem dX9_keep_18 : decode cX9_keep 18 = .ok (.aload_n 0, 1) := by decide +kernel
theorem dX9_keep_19 : decode cX9_keep 19 = .ok (.getfield 40, 3) := by decide +kernel
theorem dX9_keep_22 : decode cX9_keep 22 = .ok (.getfield 128, 3) := by decide +kernel
theorem dX9_keep_25 : decode cX9_keep 25 = .ok (.invokevirtual 256, 3) := by decide +kernel
theorem dX9_keep_28 : decode cX9_keep 28 = .ok (.aload_n 0, 1) := by decide +kernel
theorem dX9_keep_29 : decode cX9_keep 29 = .ok (.getfield 40, 3) := by decide +kernel
theorem dX9_keep_32 : decode cX9_keep 32 = .ok (.invokevirtual 260, 3) := by decide +kernel
theorem dX9_keep_35 : decode cX9_keep 35 = .ok (.ireturn, 1) := by decide +kernel
theorem dX9_back_0 : decode cX9_back 0 = .ok (.aload_n 0, 1) := by decide +kernel
theorem dX9_back_1 : decode cX9_back 1 = .ok (.getfield 77, 3) := by decide +kernel
theorem dX9_back_4 : decode cX9_back 4 = .ok (.iload_n 1, 1) := by decide +kernel
theorem dX9_back_5 : decode cX9_back 5 = .ok (.invokevirtual 253, 3) := by decide +kernel
theorem dX9_back_8 : decode cX9_back 8 = .ok (.ifCond .ne 5, 3) := by decide +kernel
theorem dX9_back_11 : decode cX9_back 11 = .ok (.iconst (-1), 1) := by decide +kernel
theorem dX9_back_12 : decode cX9_back 12 = .ok (.ireturn, 1) := by decide +kernel
theorem dX9_back_13 : decode cX9_back 13 = .ok (.aload_n 0, 1) := by decide +kernel
theorem dX9_back_14 : decode cX9_back 14 = .ok (.getfield 77, 3) := by decide +kernel
theorem dX9_back_17 : decode cX9_back 17 = .ok (.iload_n 1, 1) := by decide +kernel
theorem dX9_back_18 : decode cX9_back 18 = .ok (.invokevirtual 262, 3) := by decide +kernel
theorem dX9_back_21 : decode cX9_back 21 = .ok (.ifCond .ne 6, 3) := by decide +kernel
theorem dX9_back_24 : decode cX9_back 24 = .ok (.bipush (-2), 2) := by decide +kernel
theorem dX9_back_26 : decode cX9_back 26 = .ok (.ireturn, 1) := by decide +kernel
theorem dX9_back_27 : decode cX9_back 27 = .ok (.aload_n 0, 1) := by decide +kernel
theorem dX9_back_28 : decode cX9_back 28 = .ok (.getfield 40, 3) := by decide +kernel
theorem dX9_back_31 : decode cX9_back 31 = .ok (.aload_n 0, 1) := by decide +kernel
theorem dX9_back_32 : decode cX9_back 32 = .ok (.getfield 77, 3) := by decide +kernel
theorem dX9_back_35 : decode cX9_back 35 = .ok (.iload_n 1, 1) := by decide +kernel
theorem dX9_back_36 : decode cX9_back 36 = .ok (.invokevirtual 265, 3) := by decide +kernel
theorem dX9_back_39 : decode cX9_back 39 = .ok (.invokevirtual 165, 3) := by decide +kernel
theorem dX9_back_42 : decode cX9_back 42 = .ok (.aload_n 0, 1) := by decide +kernel
theorem dX9_back_43 : decode cX9_back 43 = .ok (.getfield 70, 3) := by decide +kernel
theorem dX9_back_46 : decode cX9_back 46 = .ok (.iconst 0, 1) := by decide +kernel
theorem dX9_back_47 : decode cX9_back 47 = .ok (.putfield 115, 3) := by decide +kernel
theorem dX9_back_50 : decode cX9_back 50 = .ok (.aload_n 0, 1) := by decide +kernel
theorem dX9_back_51 : decode cX9_back 51 = .ok (.getfield 40, 3) := by decide +kernel
theorem dX9_back_54 : decode cX9_back 54 = .ok (.invokevirtual 260, 3) := by decide +kernel
theorem dX9_back_57 : decode cX9_back 57 = .ok (.ireturn, 1) := by decide +kernel
theorem dX9_count_0 : decode cX9_count 0 = .ok (.iload_n 1, 1) := by decide +kernel
theorem dX9_count_1 : decode cX9_count 1 = .ok (.tableswitch 159 0 11 #[63, 71, 79, 87, 95, 103, 111, 119, 127, 135, 143, 151], 63) := by decide +kernel
theorem dX9_count_64 : decode cX9_count 64 = .ok (.aload_n 0, 1) := by decide +kernel
theorem dX9_count_65 : decode cX9_count 65 = .ok (.getfield 19, 3) := by decide +kernel
theorem dX9_count_68 : decode cX9_count 68 = .ok (.getfield 187, 3) := by decide +kernel
theorem dX9_count_71 : decode cX9_count 71 = .ok (.ireturn, 1) := by decide +kernel
theorem dX9_count_72 : decode cX9_count 72 = .ok (.aload_n 0, 1) := by decide +kernel
theorem dX9_count_73 : decode cX9_count 73 = .ok (.getfield 19, 3) := by decide +kernel
theorem dX9_count_76 : decode cX9_count 76 = .ok (.getfield 184, 3) := by decide +kernel
theorem dX9_count_79 : decode cX9_count 79 = .ok (.ireturn, 1) := by decide +kernel
theorem dX9_count_80 : decode cX9_count 80 = .ok (.aload_n 0, 1) := by decide +kernel
theorem dX9_count_81 : decode cX9_count 81 = .ok (.getfield 31, 3) := by decide +kernel
theorem dX9_count_84 : decode cX9_count 84 = .ok (.getfield 204, 3) := by decide +kernel
theorem dX9_count_87 : decode cX9_count 87 = .ok (.ireturn, 1) := by decide +kernel
theorem dX9_count_88 : decode cX9_count 88 = .ok (.aload_n 0, 1) := by decide +kernel
theorem dX9_count_89 : decode cX9_count 89 = .ok (.getfield 40, 3) := by decide +kernel
theorem dX9_count_92 : decode cX9_count 92 = .ok (.invokevirtual 260, 3) := by decide +kernel
theorem dX9_count_95 : decode cX9_count 95 = .ok (.ireturn, 1) := by decide +kernel
theorem dX9_count_96 : decode cX9_count 96 = .ok (.aload_n 0, 1) := by decide +kernel
theorem dX9_count_97 : decode cX9_count 97 = .ok (.getfield 19, 3) := by decide +kernel
theorem dX9_count_100 : decode cX9_count 100 = .ok (.getfield 269, 3) := by decide +kernel
theorem dX9_count_103 : decode cX9_count 103 = .ok (.ireturn, 1) := by decide +kernel
theorem dX9_count_104 : decode cX9_count 104 = .ok (.aload_n 0, 1) := by decide +kernel
theorem dX9_count_105 : decode cX9_count 105 = .ok (.getfield 19, 3) := by decide +kernel
theorem dX9_count_108 : decode cX9_count 108 = .ok (.getfield 272, 3) := by decide +kernel
theorem dX9_count_111 : decode cX9_count 111 = .ok (.ireturn, 1) := by decide +kernel
theorem dX9_count_112 : decode cX9_count 112 = .ok (.aload_n 0, 1) := by decide +kernel
theorem dX9_count_113 : decode cX9_count 113 = .ok (.getfield 19, 3) := by decide +kernel
theorem dX9_count_116 : decode cX9_count 116 = .ok (.getfield 275, 3) := by decide +kernel
theorem dX9_count_119 : decode cX9_count 119 = .ok (.ireturn, 1) := by decide +kernel
theorem dX9_count_120 : decode cX9_count 120 = .ok (.aload_n 0, 1) := by decide +kernel
theorem dX9_count_121 : decode cX9_count 121 = .ok (.getfield 19, 3) := by decide +kernel
theorem dX9_count_124 : decode cX9_count 124 = .ok (.getfield 278, 3) := by decide +kernel
theorem dX9_count_127 : decode cX9_count 127 = .ok (.ireturn, 1) := by decide +kernel
theorem dX9_count_128 : decode cX9_count 128 = .ok (.aload_n 0, 1) := by decide +kernel
theorem dX9_count_129 : decode cX9_count 129 = .ok (.getfield 19, 3) := by decide +kernel
theorem dX9_count_132 : decode cX9_count 132 = .ok (.getfield 281, 3) := by decide +kernel
theorem dX9_count_135 : decode cX9_count 135 = .ok (.ireturn, 1) := by decide +kernel
theorem dX9_count_136 : decode cX9_count 136 = .ok (.aload_n 0, 1) := by decide +kernel
theorem dX9_count_137 : decode cX9_count 137 = .ok (.getfield 63, 3) := by decide +kernel
theorem dX9_count_140 : decode cX9_count 140 = .ok (.getfield 112, 3) := by decide +kernel
theorem dX9_count_143 : decode cX9_count 143 = .ok (.ireturn, 1) := by decide +kernel
theorem dX9_count_144 : decode cX9_count 144 = .ok (.aload_n 0, 1) := by decide +kernel
theorem dX9_count_145 : decode cX9_count 145 = .ok (.getfield 12, 3) := by decide +kernel
theorem dX9_count_148 : decode cX9_count 148 = .ok (.getfield 85, 3) := by decide +kernel
theorem dX9_count_151 : decode cX9_count 151 = .ok (.ireturn, 1) := by decide +kernel
theorem dX9_count_152 : decode cX9_count 152 = .ok (.aload_n 0, 1) := by decide +kernel
theorem dX9_count_153 : decode cX9_count 153 = .ok (.getfield 70, 3) := by decide +kernel
theorem dX9_count_156 : decode cX9_count 156 = .ok (.getfield 115, 3) := by decide +kernel
theorem dX9_count_159 : decode cX9_count 159 = .ok (.ireturn, 1) := by decide +kernel
theorem dX9_count_160 : decode cX9_count 160 = .ok (.iconst (-1), 1) := by decide +kernel
theorem dX9_count_161 : decode cX9_count 161 = .ok (.ireturn, 1) := by decide +kernel
theorem dX9_has_0 : decode cX9_has 0 = .ok (.lload_n 0, 1) := by decide +kernel
theorem dX9_has_1 : decode cX9_has 1 = .ok (.iload_n 2, 1) := by decide +kernel
theorem dX9_has_2 : decode cX9_has 2 = .ok (.lushr, 1) := by decide +kernel
theorem dX9_has_3 : decode cX9_has 3 = .ok (.lconst 1, 1) := by decide +kernel
theorem dX9_has_4 : decode cX9_has 4 = .ok (.land, 1) := by decide +kernel
theorem dX9_has_5 : decode cX9_has 5 = .ok (.lconst 0, 1) := by decide +kernel
theorem dX9_has_6 : decode cX9_has 6 = .ok (.lcmp, 1) := by decide +kernel
theorem dX9_has_7 : decode cX9_has 7 = .ok (.ifCond .eq 7, 3) := by decide +kernel
theorem dX9_has_10 : decode cX9_has 10 = .ok (.iconst 1, 1) := by decide +kernel
theorem dX9_has_11 : decode cX9_has 11 = .ok (.goto 4, 3) := by decide +kernel
theorem dX9_has_14 : decode cX9_has 14 = .ok (.iconst 0, 1) := by decide +kernel
theorem dX9_has_15 : decode cX9_has 15 = .ok (.ireturn, 1) := by decide +kernel
theorem dX9_isSlope_0 : decode cX9_isSlope 0 = .ok (.iload_n 0, 1) := by decide +kernel
theorem dX9_isSlope_1 : decode cX9_isSlope 1 = .ok (.bipush (-9), 2) := by decide +kernel
theorem dX9_isSlope_3 : decode cX9_isSlope 3 = .ok (.if_icmp .lt 13, 3) := by decide +kernel
theorem dX9_isSlope_6 : decode cX9_isSlope 6 = .ok (.iload_n 0, 1) := by decide +kernel
theorem dX9_isSlope_7 : decode cX9_isSlope 7 = .ok (.bipush 9, 2) := by decide +kernel
theorem dX9_isSlope_9 : decode cX9_isSlope 9 = .ok (.if_icmp .gt 7, 3) := by decide +kernel
theorem dX9_isSlope_12 : decode cX9_isSlope 12 = .ok (.iconst 1, 1) := by decide +kernel
theorem dX9_isSlope_13 : decode cX9_isSlope 13 = .ok (.goto 4, 3) := by decide +kernel
theorem dX9_isSlope_16 : decode cX9_isSlope 16 = .ok (.iconst 0, 1) := by decide +kernel
theorem dX9_isSlope_17 : decode cX9_isSlope 17 = .ok (.ireturn, 1) := by decide +kernel
theorem dX9_isLine_0 : decode cX9_isLine 0 = .ok (.iload_n 1, 1) := by decide +kernel
theorem dX9_isLine_1 : decode cX9_isLine 1 = .ok (.bipush 8, 2) := by decide +kernel
theorem dX9_isLine_3 : decode cX9_isLine 3 = .ok (.if_icmp .ge 24, 3) := by decide +kernel
theorem dX9_isLine_6 : decode cX9_isLine 6 = .ok (.iload_n 1, 1) := by decide +kernel
theorem dX9_isLine_7 : decode cX9_isLine 7 = .ok (.ifCond .lt 18, 3) := by decide +kernel
theorem dX9_isLine_10 : decode cX9_isLine 10 = .ok (.iload_n 1, 1) := by decide +kernel
theorem dX9_isLine_11 : decode cX9_isLine 11 = .ok (.aload_n 0, 1) := by decide +kernel
theorem dX9_isLine_12 : decode cX9_isLine 12 = .ok (.getfield 19, 3) := by decide +kernel
theorem dX9_isLine_15 : decode cX9_isLine 15 = .ok (.getfield 184, 3) := by decide +kernel
theorem dX9_isLine_18 : decode cX9_isLine 18 = .ok (.if_icmp .ge 7, 3) := by decide +kernel
theorem dX9_isLine_21 : decode cX9_isLine 21 = .ok (.iconst 1, 1) := by decide +kernel
theorem dX9_isLine_22 : decode cX9_isLine 22 = .ok (.goto 4, 3) := by decide +kernel
theorem dX9_isLine_25 : decode cX9_isLine 25 = .ok (.iconst 0, 1) := by decide +kernel
theorem dX9_isLine_26 : decode cX9_isLine 26 = .ok (.ireturn, 1) := by decide +kernel
theorem dX9_isLine_27 : decode cX9_isLine 27 = .ok (.iload_n 1, 1) := by decide +kernel
theorem dX9_isLine_28 : decode cX9_isLine 28 = .ok (.bipush 8, 2) := by decide +kernel
theorem dX9_isLine_30 : decode cX9_isLine 30 = .ok (.isub, 1) := by decide +kernel
theorem dX9_isLine_31 : decode cX9_isLine 31 = .ok (.aload_n 0, 1) := by decide +kernel
theorem dX9_isLine_32 : decode cX9_isLine 32 = .ok (.getfield 19, 3) := by decide +kernel
theorem dX9_isLine_35 : decode cX9_isLine 35 = .ok (.getfield 187, 3) := by decide +kernel
theorem dX9_isLine_38 : decode cX9_isLine 38 = .ok (.if_icmp .ge 7, 3) := by decide +kernel
theorem dX9_isLine_41 : decode cX9_isLine 41 = .ok (.iconst 1, 1) := by decide +kernel
theorem dX9_isLine_42 : decode cX9_isLine 42 = .ok (.goto 4, 3) := by decide +kernel
theorem dX9_isLine_45 : decode cX9_isLine 45 = .ok (.iconst 0, 1) := by decide +kernel
theorem dX9_isLine_46 : decode cX9_isLine 46 = .ok (.ireturn, 1) := by decide +kernel
theorem dX9_noDots_0 : decode cX9_noDots 0 = .ok (.aload_n 0, 1) := by decide +kernel
theorem dX9_noDots_1 : decode cX9_noDots 1 = .ok (.getfield 40, 3) := by decide +kernel
theorem dX9_noDots_4 : decode cX9_noDots 4 = .ok (.getfield 128, 3) := by decide +kernel
theorem dX9_noDots_7 : decode cX9_noDots 7 = .ok (.lconst 0, 1) := by decide +kernel
theorem dX9_noDots_8 : decode cX9_noDots 8 = .ok (.lcmp, 1) := by decide +kernel
theorem dX9_noDots_9 : decode cX9_noDots 9 = .ok (.ifCond .ne 7, 3) := by decide +kernel
theorem dX9_noDots_12 : decode cX9_noDots 12 = .ok (.iconst 1, 1) := by decide +kernel
theorem dX9_noDots_13 : decode cX9_noDots 13 = .ok (.goto 4, 3) := by decide +kernel
theorem dX9_noDots_16 : decode cX9_noDots 16 = .ok (.iconst 0, 1) := by decide +kernel
theorem dX9_noDots_17 : decode cX9_noDots 17 = .ok (.ireturn, 1) := by decide +kernel
theorem dX9_numberWithRanks_0 : decode cX9_numberWithRanks 0 = .ok (.aload_n 0, 1) := by decide +kernel
theorem dX9_numberWithRanks_1 : decode cX9_numberWithRanks 1 = .ok (.getfield 19, 3) := by decide +kernel
theorem dX9_numberWithRanks_4 : decode cX9_numberWithRanks 4 = .ok (.iload_n 1, 1) := by decide +kernel
theorem dX9_numberWithRanks_5 : decode cX9_numberWithRanks 5 = .ok (.iload_n 2, 1) := by decide +kernel
theorem dX9_numberWithRanks_6 : decode cX9_numberWithRanks 6 = .ok (.invokevirtual 117, 3) := by decide +kernel
theorem dX9_numberWithRanks_9 : decode cX9_numberWithRanks 9 = .ok (.istore_n 3, 1) := by decide +kernel
theorem dX9_numberWithRanks_10 : decode cX9_numberWithRanks 10 = .ok (.iload_n 3, 1) := by decide +kernel
theorem dX9_numberWithRanks_11 : decode cX9_numberWithRanks 11 = .ok (.iconst (-1), 1) := by decide +kernel
theorem dX9_numberWithRanks_12 : decode cX9_numberWithRanks 12 = .ok (.if_icmp .ne 5, 3) := by decide +kernel
theorem dX9_numberWithRanks_15 : decode cX9_numberWithRanks 15 = .ok (.iconst (-1), 1) := by decide +kernel
theorem dX9_numberWithRanks_16 : decode cX9_numberWithRanks 16 = .ok (.ireturn, 1) := by decide +kernel
theorem dX9_numberWithRanks_17 : decode cX9_numberWithRanks 17 = .ok (.aload_n 0, 1) := by decide +kernel
theorem dX9_numberWithRanks_18 : decode cX9_numberWithRanks 18 = .ok (.invokevirtual 147, 3) := by decide +kernel
theorem dX9_numberWithRanks_21 : decode cX9_numberWithRanks 21 = .ok (.ifCond .eq 8, 3) := by decide +kernel
theorem dX9_numberWithRanks_24 : decode cX9_numberWithRanks 24 = .ok (.bipush (-2), 2) := by decide +kernel
theorem dX9_numberWithRanks_26 : decode cX9_numberWithRanks 26 = .ok (.goto 4, 3) := by decide +kernel
theorem dX9_numberWithRanks_29 : decode cX9_numberWithRanks 29 = .ok (.iload_n 3, 1) := by decide +kernel
theorem dX9_numberWithRanks_30 : decode cX9_numberWithRanks 30 = .ok (.ireturn, 1) := by decide +kernel
theorem dX9_emptyCells_0 : decode cX9_emptyCells 0 = .ok (.aload_n 0, 1) := by decide +kernel
theorem dX9_emptyCells_1 : decode cX9_emptyCells 1 = .ok (.getfield 31, 3) := by decide +kernel
theorem dX9_emptyCells_4 : decode cX9_emptyCells 4 = .ok (.getfield 284, 3) := by decide +kernel
theorem dX9_emptyCells_7 : decode cX9_emptyCells 7 = .ok (.aload_n 0, 1) := by decide +kernel
theorem dX9_emptyCells_8 : decode cX9_emptyCells 8 = .ok (.getfield 40, 3) := by decide +kernel
theorem dX9_emptyCells_11 : decode cX9_emptyCells 11 = .ok (.getfield 128, 3) := by decide +kernel
theorem dX9_emptyCells_14 : decode cX9_emptyCells 14 = .ok (.ldc2_w 287, 3) := by decide +kernel
theorem dX9_emptyCells_17 : decode cX9_emptyCells 17 = .ok (.lxor, 1) := by decide +kernel
theorem dX9_emptyCells_18 : decode cX9_emptyCells 18 = .ok (.land, 1) := by decide +kernel
theorem dX9_emptyCells_19 : decode cX9_emptyCells 19 = .ok (.lreturn, 1) := by decide +kernel
theorem dX9_ranksNow_0 : decode cX9_ranksNow 0 = .ok (.aload_n 0, 1) := by decide +kernel
theorem dX9_ranksNow_1 : decode cX9_ranksNow 1 = .ok (.getfield 47, 3) := by decide +kernel
theorem dX9_ranksNow_4 : decode cX9_ranksNow 4 = .ok (.aload_n 0, 1) := by decide +kernel
theorem dX9_ranksNow_5 : decode cX9_ranksNow 5 = .ok (.getfield 40, 3) := by decide +kernel
theorem dX9_ranksNow_8 : decode cX9_ranksNow 8 = .ok (.getfield 128, 3) := by decide +kernel
theorem dX9_ranksNow_11 : decode cX9_ranksNow 11 = .ok (.invokevirtual 289, 3) := by decide +kernel
theorem dX9_ranksNow_14 : decode cX9_ranksNow 14 = .ok (.aload_n 0, 1) := by decide +kernel
theorem dX9_ranksNow_15 : decode cX9_ranksNow 15 = .ok (.getfield 47, 3) := by decide +kernel
theorem dX9_ranksNow_18 : decode cX9_ranksNow 18 = .ok (.areturn, 1) := by decide +kernel
theorem dX9_pictureNow_0 : decode cX9_pictureNow 0 = .ok (.aload_n 0, 1) := by decide +kernel
theorem dX9_pictureNow_1 : decode cX9_pictureNow 1 = .ok (.getfield 47, 3) := by decide +kernel
theorem dX9_pictureNow_4 : decode cX9_pictureNow 4 = .ok (.aload_n 0, 1) := by decide +kernel
theorem dX9_pictureNow_5 : decode cX9_pictureNow 5 = .ok (.getfield 40, 3) := by decide +kernel
theorem dX9_pictureNow_8 : decode cX9_pictureNow 8 = .ok (.getfield 128, 3) := by decide +kernel
theorem dX9_pictureNow_11 : decode cX9_pictureNow 11 = .ok (.invokevirtual 289, 3) := by decide +kernel
theorem dX9_pictureNow_14 : decode cX9_pictureNow 14 = .ok (.aload_n 0, 1) := by decide +kernel
theorem dX9_pictureNow_15 : decode cX9_pictureNow 15 = .ok (.getfield 56, 3) := by decide +kernel
theorem dX9_pictureNow_18 : decode cX9_pictureNow 18 = .ok (.areturn, 1) := by decide +kernel
theorem dX9_restStep_0 : decode cX9_restStep 0 = .ok (.aload_n 0, 1) := by decide +kernel
theorem dX9_restStep_1 : decode cX9_restStep 1 = .ok (.getfield 40, 3) := by decide +kernel
theorem dX9_restStep_4 : decode cX9_restStep 4 = .ok (.aload_n 0, 1) := by decide +kernel
theorem dX9_restStep_5 : decode cX9_restStep 5 = .ok (.getfield 40, 3) := by decide +kernel
theorem dX9_restStep_8 : decode cX9_restStep 8 = .ok (.getfield 128, 3) := by decide +kernel
theorem dX9_restStep_11 : decode cX9_restStep 11 = .ok (.invokevirtual 171, 3) := by decide +kernel
theorem dX9_restStep_14 : decode cX9_restStep 14 = .ok (.istore_n 1, 1) := by decide +kernel
theorem dX9_restStep_15 : decode cX9_restStep 15 = .ok (.aload_n 0, 1) := by decide +kernel
theorem dX9_restStep_16 : decode cX9_restStep 16 = .ok (.getfield 40, 3) := by decide +kernel
theorem dX9_restStep_19 : decode cX9_restStep 19 = .ok (.iload_n 1, 1) := by decide +kernel
theorem dX9_restStep_20 : decode cX9_restStep 20 = .ok (.invokevirtual 143, 3) := by decide +kernel
theorem dX9_restStep_23 : decode cX9_restStep 23 = .ok (.aload_n 0, 1) := by decide +kernel
theorem dX9_restStep_24 : decode cX9_restStep 24 = .ok (.getfield 40, 3) := by decide +kernel
theorem dX9_restStep_27 : decode cX9_restStep 27 = .ok (.aload_n 0, 1) := by decide +kernel
theorem dX9_restStep_28 : decode cX9_restStep 28 = .ok (.invokevirtual 154, 3) := by decide +kernel
theorem dX9_restStep_31 : decode cX9_restStep 31 = .ok (.invokevirtual 175, 3) := by decide +kernel
theorem dX9_restStep_34 : decode cX9_restStep 34 = .ok (.istore_n 2, 1) := by decide +kernel
theorem dX9_restStep_35 : decode cX9_restStep 35 = .ok (.aload_n 0, 1) := by decide +kernel
theorem dX9_restStep_36 : decode cX9_restStep 36 = .ok (.getfield 40, 3) := by decide +kernel
theorem dX9_restStep_39 : decode cX9_restStep 39 = .ok (.iload_n 2, 1) := by decide +kernel
theorem dX9_restStep_40 : decode cX9_restStep 40 = .ok (.invokevirtual 143, 3) := by decide +kernel
theorem dX9_restStep_43 : decode cX9_restStep 43 = .ok (.iload_n 1, 1) := by decide +kernel
theorem dX9_restStep_44 : decode cX9_restStep 44 = .ok (.iload_n 2, 1) := by decide +kernel
theorem dX9_restStep_45 : decode cX9_restStep 45 = .ok (.if_icmp .eq 7, 3) := by decide +kernel
theorem dX9_restStep_48 : decode cX9_restStep 48 = .ok (.iconst 1, 1) := by decide +kernel
theorem dX9_restStep_49 : decode cX9_restStep 49 = .ok (.goto 4, 3) := by decide +kernel
theorem dX9_restStep_52 : decode cX9_restStep 52 = .ok (.iconst 0, 1) := by decide +kernel
theorem dX9_restStep_53 : decode cX9_restStep 53 = .ok (.ireturn, 1) := by decide +kernel
theorem dX9_gain_0 : decode cX9_gain 0 = .ok (.aload_n 0, 1) := by decide +kernel
theorem dX9_gain_1 : decode cX9_gain 1 = .ok (.getfield 40, 3) := by decide +kernel
theorem dX9_gain_4 : decode cX9_gain 4 = .ok (.iload_n 1, 1) := by decide +kernel
theorem dX9_gain_5 : decode cX9_gain 5 = .ok (.invokevirtual 167, 3) := by decide +kernel
theorem dX9_gain_8 : decode cX9_gain 8 = .ok (.aload_n 0, 1) := by decide +kernel
theorem dX9_gain_9 : decode cX9_gain 9 = .ok (.getfield 31, 3) := by decide +kernel
theorem dX9_gain_12 : decode cX9_gain 12 = .ok (.iload_n 1, 1) := by decide +kernel
theorem dX9_gain_13 : decode cX9_gain 13 = .ok (.iload_n 1, 1) := by decide +kernel
theorem dX9_gain_14 : decode cX9_gain 14 = .ok (.invokevirtual 137, 3) := by decide +kernel
theorem dX9_gain_17 : decode cX9_gain 17 = .ok (.isub, 1) := by decide +kernel
theorem dX9_gain_18 : decode cX9_gain 18 = .ok (.istore_n 3, 1) := by decide +kernel
theorem dX9_gain_19 : decode cX9_gain 19 = .ok (.aload_n 0, 1) := by decide +kernel
theorem dX9_gain_20 : decode cX9_gain 20 = .ok (.getfield 40, 3) := by decide +kernel
theorem dX9_gain_23 : decode cX9_gain 23 = .ok (.iload_n 2, 1) := by decide +kernel
theorem dX9_gain_24 : decode cX9_gain 24 = .ok (.invokevirtual 167, 3) := by decide +kernel
theorem dX9_gain_27 : decode cX9_gain 27 = .ok (.aload_n 0, 1) := by decide +kernel
theorem dX9_gain_28 : decode cX9_gain 28 = .ok (.getfield 31, 3) := by decide +kernel
theorem dX9_gain_31 : decode cX9_gain 31 = .ok (.iload_n 1, 1) := by decide +kernel
theorem dX9_gain_32 : decode cX9_gain 32 = .ok (.iload_n 2, 1) := by decide +kernel
theorem dX9_gain_33 : decode cX9_gain 33 = .ok (.invokevirtual 137, 3) := by decide +kernel
theorem dX9_gain_36 : decode cX9_gain 36 = .ok (.isub, 1) := by decide +kernel
theorem dX9_gain_37 : decode cX9_gain 37 = .ok (.istore 4, 2) := by decide +kernel
theorem dX9_gain_39 : decode cX9_gain 39 = .ok (.iload_n 3, 1) := by decide +kernel
theorem dX9_gain_40 : decode cX9_gain 40 = .ok (.iload 4, 2) := by decide +kernel
theorem dX9_gain_42 : decode cX9_gain 42 = .ok (.isub, 1) := by decide +kernel
theorem dX9_gain_43 : decode cX9_gain 43 = .ok (.ireturn, 1) := by decide +kernel
theorem dX9_bestMove_0 : decode cX9_bestMove 0 = .ok (.aload_n 0, 1) := by decide +kernel
theorem dX9_bestMove_1 : decode cX9_bestMove 1 = .ok (.invokevirtual 154, 3) := by decide +kernel
theorem dX9_bestMove_4 : decode cX9_bestMove 4 = .ok (.lstore_n 1, 1) := by decide +kernel
theorem dX9_bestMove_5 : decode cX9_bestMove 5 = .ok (.iconst (-1), 1) := by decide +kernel
theorem dX9_bestMove_6 : decode cX9_bestMove 6 = .ok (.istore_n 3, 1) := by decide +kernel
theorem dX9_bestMove_7 : decode cX9_bestMove 7 = .ok (.iconst 0, 1) := by decide +kernel
theorem dX9_bestMove_8 : decode cX9_bestMove 8 = .ok (.istore 4, 2) := by decide +kernel
theorem dX9_bestMove_10 : decode cX9_bestMove 10 = .ok (.iconst 0, 1) := by decide +kernel
theorem dX9_bestMove_11 : decode cX9_bestMove 11 = .ok (.istore 5, 2) := by decide +kernel
theorem dX9_bestMove_13 : decode cX9_bestMove 13 = .ok (.iload 5, 2) := by decide +kernel
theorem dX9_bestMove_15 : decode cX9_bestMove 15 = .ok (.aload_n 0, 1) := by decide +kernel
theorem dX9_bestMove_16 : decode cX9_bestMove 16 = .ok (.getfield 31, 3) := by decide +kernel
theorem dX9_bestMove_19 : decode cX9_bestMove 19 = .ok (.getfield 292, 3) := by decide +kernel
theorem dX9_bestMove_22 : decode cX9_bestMove 22 = .ok (.if_icmp .ge 95, 3) := by decide +kernel
theorem dX9_bestMove_25 : decode cX9_bestMove 25 = .ok (.aload_n 0, 1) := by decide +kernel
theorem dX9_bestMove_26 : decode cX9_bestMove 26 = .ok (.getfield 40, 3) := by decide +kernel
theorem dX9_bestMove_29 : decode cX9_bestMove 29 = .ok (.getfield 128, 3) := by decide +kernel
theorem dX9_bestMove_32 : decode cX9_bestMove 32 = .ok (.iload 5, 2) := by decide +kernel
theorem dX9_bestMove_34 : decode cX9_bestMove 34 = .ok (.invokestatic 124, 3) := by decide +kernel
theorem dX9_bestMove_37 : decode cX9_bestMove 37 = .ok (.ifCond .ne 6, 3) := by decide +kernel
theorem dX9_bestMove_40 : decode cX9_bestMove 40 = .ok (.goto 71, 3) := by decide +kernel
theorem dX9_bestMove_43 : decode cX9_bestMove 43 = .ok (.iconst 0, 1) := by decide +kernel
theorem dX9_bestMove_44 : decode cX9_bestMove 44 = .ok (.istore 6, 2) := by decide +kernel
theorem dX9_bestMove_46 : decode cX9_bestMove 46 = .ok (.iload 6, 2) := by decide +kernel
theorem dX9_bestMove_48 : decode cX9_bestMove 48 = .ok (.aload_n 0, 1) := by decide +kernel
theorem dX9_bestMove_49 : decode cX9_bestMove 49 = .ok (.getfield 31, 3) := by decide +kernel
theorem dX9_bestMove_52 : decode cX9_bestMove 52 = .ok (.getfield 292, 3) := by decide +kernel
theorem dX9_bestMove_55 : decode cX9_bestMove 55 = .ok (.if_icmp .ge 56, 3) := by decide +kernel
theorem dX9_bestMove_58 : decode cX9_bestMove 58 = .ok (.lload_n 1, 1) := by decide +kernel
theorem dX9_bestMove_59 : decode cX9_bestMove 59 = .ok (.iload 6, 2) := by decide +kernel
theorem dX9_bestMove_61 : decode cX9_bestMove 61 = .ok (.invokestatic 124, 3) := by decide +kernel
theorem dX9_bestMove_64 : decode cX9_bestMove 64 = .ok (.ifCond .ne 6, 3) := by decide +kernel
theorem dX9_bestMove_67 : decode cX9_bestMove 67 = .ok (.goto 38, 3) := by decide +kernel
theorem dX9_bestMove_70 : decode cX9_bestMove 70 = .ok (.aload_n 0, 1) := by decide +kernel
theorem dX9_bestMove_71 : decode cX9_bestMove 71 = .ok (.iload 5, 2) := by decide +kernel
theorem dX9_bestMove_73 : decode cX9_bestMove 73 = .ok (.iload 6, 2) := by decide +kernel
theorem dX9_bestMove_75 : decode cX9_bestMove 75 = .ok (.invokevirtual 181, 3) := by decide +kernel
theorem dX9_bestMove_78 : decode cX9_bestMove 78 = .ok (.istore 7, 2) := by decide +kernel
theorem dX9_bestMove_80 : decode cX9_bestMove 80 = .ok (.iload_n 3, 1) := by decide +kernel
theorem dX9_bestMove_81 : decode cX9_bestMove 81 = .ok (.iconst (-1), 1) := by decide +kernel
theorem dX9_bestMove_82 : decode cX9_bestMove 82 = .ok (.if_icmp .eq 10, 3) := by decide +kernel
theorem dX9_bestMove_85 : decode cX9_bestMove 85 = .ok (.iload 7, 2) := by decide +kernel
theorem dX9_bestMove_87 : decode cX9_bestMove 87 = .ok (.iload 4, 2) := by decide +kernel
theorem dX9_bestMove_89 : decode cX9_bestMove 89 = .ok (.if_icmp .le 16, 3) := by decide +kernel
theorem dX9_bestMove_92 : decode cX9_bestMove 92 = .ok (.iload 5, 2) := by decide +kernel
theorem dX9_bestMove_94 : decode cX9_bestMove 94 = .ok (.bipush 64, 2) := by decide +kernel
theorem dX9_bestMove_96 : decode cX9_bestMove 96 = .ok (.imul, 1) := by decide +kernel
theorem dX9_bestMove_97 : decode cX9_bestMove 97 = .ok (.iload 6, 2) := by decide +kernel
theorem dX9_bestMove_99 : decode cX9_bestMove 99 = .ok (.iadd, 1) := by decide +kernel
theorem dX9_bestMove_100 : decode cX9_bestMove 100 = .ok (.istore_n 3, 1) := by decide +kernel
theorem dX9_bestMove_101 : decode cX9_bestMove 101 = .ok (.iload 7, 2) := by decide +kernel
theorem dX9_bestMove_103 : decode cX9_bestMove 103 = .ok (.istore 4, 2) := by decide +kernel
theorem dX9_bestMove_105 : decode cX9_bestMove 105 = .ok (.iinc 6 1, 3) := by decide +kernel
theorem dX9_bestMove_108 : decode cX9_bestMove 108 = .ok (.goto (-62), 3) := by decide +kernel
theorem dX9_bestMove_111 : decode cX9_bestMove 111 = .ok (.iinc 5 1, 3) := by decide +kernel
theorem dX9_bestMove_114 : decode cX9_bestMove 114 = .ok (.goto (-101), 3) := by decide +kernel
theorem dX9_bestMove_117 : decode cX9_bestMove 117 = .ok (.iload_n 3, 1) := by decide +kernel
theorem dX9_bestMove_118 : decode cX9_bestMove 118 = .ok (.ireturn, 1) := by decide +kernel
