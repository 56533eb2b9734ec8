theorem d_Plan_reckon_61 : decode zy_Plan_reckon.2.1 61 = .ok (.aload_n 0, 1) := by decide +kernel
theorem d_Plan_reckon_62 : decode zy_Plan_reckon.2.1 62 = .ok (.getfield 9, 3) := by decide +kernel
theorem d_Plan_reckon_65 : decode zy_Plan_reckon.2.1 65 = .ok (.if_icmp .ne (7), 3) := by decide +kernel
theorem d_Plan_reckon_68 : decode zy_Plan_reckon.2.1 68 = .ok (.iconst 0, 1) := by decide +kernel
theorem d_Plan_reckon_69 : decode zy_Plan_reckon.2.1 69 = .ok (.goto (10), 3) := by decide +kernel
theorem d_Plan_reckon_72 : decode zy_Plan_reckon.2.1 72 = .ok (.aload_n 0, 1) := by decide +kernel
theorem d_Plan_reckon_73 : decode zy_Plan_reckon.2.1 73 = .ok (.iload_n 3, 1) := by decide +kernel
theorem d_Plan_reckon_74 : decode zy_Plan_reckon.2.1 74 = .ok (.iload 4, 2) := by decide +kernel
theorem d_Plan_reckon_76 : decode zy_Plan_reckon.2.1 76 = .ok (.invokevirtual 34, 3) := by decide +kernel
theorem d_Plan_reckon_79 : decode zy_Plan_reckon.2.1 79 = .ok (.iastore, 1) := by decide +kernel
theorem d_Plan_reckon_80 : decode zy_Plan_reckon.2.1 80 = .ok (.iinc 4 1, 3) := by decide +kernel
theorem d_Plan_reckon_83 : decode zy_Plan_reckon.2.1 83 = .ok (.goto (-71), 3) := by decide +kernel
theorem d_Plan_reckon_86 : decode zy_Plan_reckon.2.1 86 = .ok (.iinc 3 (-1), 3) := by decide +kernel
theorem d_Plan_reckon_89 : decode zy_Plan_reckon.2.1 89 = .ok (.goto (-84), 3) := by decide +kernel
theorem d_Plan_reckon_92 : decode zy_Plan_reckon.2.1 92 = .ok (.return_, 1) := by decide +kernel
theorem d_M_bar_0 : decode zy_M_bar.2.1 0 = .ok (.aload_n 0, 1) := by decide +kernel
theorem d_M_bar_1 : decode zy_M_bar.2.1 1 = .ok (.iload_n 1, 1) := by decide +kernel
theorem d_M_bar_2 : decode zy_M_bar.2.1 2 = .ok (.invokevirtual 133, 3) := by decide +kernel
theorem d_M_bar_5 : decode zy_M_bar.2.1 5 = .ok (.ifCond .eq (21), 3) := by decide +kernel
theorem d_M_bar_8 : decode zy_M_bar.2.1 8 = .ok (.aload_n 0, 1) := by decide +kernel
theorem d_M_bar_9 : decode zy_M_bar.2.1 9 = .ok (.iload_n 2, 1) := by decide +kernel
theorem d_M_bar_10 : decode zy_M_bar.2.1 10 = .ok (.invokevirtual 120, 3) := by decide +kernel
theorem d_M_bar_13 : decode zy_M_bar.2.1 13 = .ok (.ifCond .eq (13), 3) := by decide +kernel
theorem d_M_bar_16 : decode zy_M_bar.2.1 16 = .ok (.iload_n 3, 1) := by decide +kernel
theorem d_M_bar_17 : decode zy_M_bar.2.1 17 = .ok (.i2l, 1) := by decide +kernel
theorem d_M_bar_18 : decode zy_M_bar.2.1 18 = .ok (.lconst 0, 1) := by decide +kernel
theorem d_M_bar_19 : decode zy_M_bar.2.1 19 = .ok (.lconst 1, 1) := by decide +kernel
theorem d_M_bar_20 : decode zy_M_bar.2.1 20 = .ok (.invokestatic 109, 3) := by decide +kernel
theorem d_M_bar_23 : decode zy_M_bar.2.1 23 = .ok (.ifCond .ne (6), 3) := by decide +kernel
theorem d_M_bar_26 : decode zy_M_bar.2.1 26 = .ok (.bipush (-2), 2) := by decide +kernel
theorem d_M_bar_28 : decode zy_M_bar.2.1 28 = .ok (.ireturn, 1) := by decide +kernel
theorem d_M_bar_29 : decode zy_M_bar.2.1 29 = .ok (.aload_n 0, 1) := by decide +kernel
theorem d_M_bar_30 : decode zy_M_bar.2.1 30 = .ok (.getfield 42, 3) := by decide +kernel
theorem d_M_bar_33 : decode zy_M_bar.2.1 33 = .ok (.bipush 6, 2) := by decide +kernel
theorem d_M_bar_35 : decode zy_M_bar.2.1 35 = .ok (.iload_n 1, 1) := by decide +kernel
theorem d_M_bar_36 : decode zy_M_bar.2.1 36 = .ok (.imul, 1) := by decide +kernel
theorem d_M_bar_37 : decode zy_M_bar.2.1 37 = .ok (.iload_n 2, 1) := by decide +kernel
theorem d_M_bar_38 : decode zy_M_bar.2.1 38 = .ok (.iadd, 1) := by decide +kernel
theorem d_M_bar_39 : decode zy_M_bar.2.1 39 = .ok (.baload, 1) := by decide +kernel
theorem d_M_bar_40 : decode zy_M_bar.2.1 40 = .ok (.ifCond .eq (7), 3) := by decide +kernel
theorem d_M_bar_43 : decode zy_M_bar.2.1 43 = .ok (.iconst 1, 1) := by decide +kernel
theorem d_M_bar_44 : decode zy_M_bar.2.1 44 = .ok (.goto (4), 3) := by decide +kernel
theorem d_M_bar_47 : decode zy_M_bar.2.1 47 = .ok (.iconst 0, 1) := by decide +kernel
theorem d_M_bar_48 : decode zy_M_bar.2.1 48 = .ok (.istore 4, 2) := by decide +kernel
theorem d_M_bar_50 : decode zy_M_bar.2.1 50 = .ok (.aload_n 0, 1) := by decide +kernel
theorem d_M_bar_51 : decode zy_M_bar.2.1 51 = .ok (.getfield 42, 3) := by decide +kernel
theorem d_M_bar_54 : decode zy_M_bar.2.1 54 = .ok (.bipush 6, 2) := by decide +kernel
theorem d_M_bar_56 : decode zy_M_bar.2.1 56 = .ok (.iload_n 1, 1) := by decide +kernel
theorem d_M_bar_57 : decode zy_M_bar.2.1 57 = .ok (.imul, 1) := by decide +kernel
theorem d_M_bar_58 : decode zy_M_bar.2.1 58 = .ok (.iload_n 2, 1) := by decide +kernel
theorem d_M_bar_59 : decode zy_M_bar.2.1 59 = .ok (.iadd, 1) := by decide +kernel
theorem d_M_bar_60 : decode zy_M_bar.2.1 60 = .ok (.iload_n 3, 1) := by decide +kernel
theorem d_M_bar_61 : decode zy_M_bar.2.1 61 = .ok (.iconst 1, 1) := by decide +kernel
theorem d_M_bar_62 : decode zy_M_bar.2.1 62 = .ok (.if_icmp .ne (7), 3) := by decide +kernel
theorem d_M_bar_65 : decode zy_M_bar.2.1 65 = .ok (.iconst 1, 1) := by decide +kernel
theorem d_M_bar_66 : decode zy_M_bar.2.1 66 = .ok (.goto (4), 3) := by decide +kernel
theorem d_M_bar_69 : decode zy_M_bar.2.1 69 = .ok (.iconst 0, 1) := by decide +kernel
theorem d_M_bar_70 : decode zy_M_bar.2.1 70 = .ok (.bastore, 1) := by decide +kernel
theorem d_M_bar_71 : decode zy_M_bar.2.1 71 = .ok (.iload 4, 2) := by decide +kernel
theorem d_M_bar_73 : decode zy_M_bar.2.1 73 = .ok (.ireturn, 1) := by decide +kernel
theorem d_M_cell_0 : decode zy_M_cell.2.1 0 = .ok (.iload_n 1, 1) := by decide +kernel
theorem d_M_cell_1 : decode zy_M_cell.2.1 1 = .ok (.invokestatic 339, 3) := by decide +kernel
theorem d_M_cell_4 : decode zy_M_cell.2.1 4 = .ok (.ifCond .ne (6), 3) := by decide +kernel
theorem d_M_cell_7 : decode zy_M_cell.2.1 7 = .ok (.bipush (-2), 2) := by decide +kernel
theorem d_M_cell_9 : decode zy_M_cell.2.1 9 = .ok (.ireturn, 1) := by decide +kernel
theorem d_M_cell_10 : decode zy_M_cell.2.1 10 = .ok (.aload_n 0, 1) := by decide +kernel
theorem d_M_cell_11 : decode zy_M_cell.2.1 11 = .ok (.getfield 91, 3) := by decide +kernel
theorem d_M_cell_14 : decode zy_M_cell.2.1 14 = .ok (.iload_n 1, 1) := by decide +kernel
theorem d_M_cell_15 : decode zy_M_cell.2.1 15 = .ok (.iaload, 1) := by decide +kernel
theorem d_M_cell_16 : decode zy_M_cell.2.1 16 = .ok (.ifCond .ge (6), 3) := by decide +kernel
theorem d_M_cell_19 : decode zy_M_cell.2.1 19 = .ok (.bipush (-11), 2) := by decide +kernel
theorem d_M_cell_21 : decode zy_M_cell.2.1 21 = .ok (.ireturn, 1) := by decide +kernel
theorem d_M_cell_22 : decode zy_M_cell.2.1 22 = .ok (.iload_n 2, 1) := by decide +kernel
theorem d_M_cell_23 : decode zy_M_cell.2.1 23 = .ok (.i2l, 1) := by decide +kernel
theorem d_M_cell_24 : decode zy_M_cell.2.1 24 = .ok (.lconst 0, 1) := by decide +kernel
theorem d_M_cell_25 : decode zy_M_cell.2.1 25 = .ok (.aload_n 0, 1) := by decide +kernel
theorem d_M_cell_26 : decode zy_M_cell.2.1 26 = .ok (.getfield 94, 3) := by decide +kernel
theorem d_M_cell_29 : decode zy_M_cell.2.1 29 = .ok (.iload_n 1, 1) := by decide +kernel
theorem d_M_cell_30 : decode zy_M_cell.2.1 30 = .ok (.iaload, 1) := by decide +kernel
theorem d_M_cell_31 : decode zy_M_cell.2.1 31 = .ok (.iconst 1, 1) := by decide +kernel
theorem d_M_cell_32 : decode zy_M_cell.2.1 32 = .ok (.isub, 1) := by decide +kernel
theorem d_M_cell_33 : decode zy_M_cell.2.1 33 = .ok (.i2l, 1) := by decide +kernel
theorem d_M_cell_34 : decode zy_M_cell.2.1 34 = .ok (.invokestatic 109, 3) := by decide +kernel
theorem d_M_cell_37 : decode zy_M_cell.2.1 37 = .ok (.ifCond .ne (6), 3) := by decide +kernel
theorem d_M_cell_40 : decode zy_M_cell.2.1 40 = .ok (.bipush (-12), 2) := by decide +kernel
theorem d_M_cell_42 : decode zy_M_cell.2.1 42 = .ok (.ireturn, 1) := by decide +kernel
theorem d_M_cell_43 : decode zy_M_cell.2.1 43 = .ok (.aload_n 0, 1) := by decide +kernel
theorem d_M_cell_44 : decode zy_M_cell.2.1 44 = .ok (.getfield 97, 3) := by decide +kernel
theorem d_M_cell_47 : decode zy_M_cell.2.1 47 = .ok (.bipush 40, 2) := by decide +kernel
theorem d_M_cell_49 : decode zy_M_cell.2.1 49 = .ok (.iload_n 1, 1) := by decide +kernel
theorem d_M_cell_50 : decode zy_M_cell.2.1 50 = .ok (.imul, 1) := by decide +kernel
theorem d_M_cell_51 : decode zy_M_cell.2.1 51 = .ok (.iload_n 2, 1) := by decide +kernel
theorem d_M_cell_52 : decode zy_M_cell.2.1 52 = .ok (.iadd, 1) := by decide +kernel
theorem d_M_cell_53 : decode zy_M_cell.2.1 53 = .ok (.aload_n 0, 1) := by decide +kernel
theorem d_M_cell_54 : decode zy_M_cell.2.1 54 = .ok (.getfield 91, 3) := by decide +kernel
theorem d_M_cell_57 : decode zy_M_cell.2.1 57 = .ok (.iload_n 1, 1) := by decide +kernel
theorem d_M_cell_58 : decode zy_M_cell.2.1 58 = .ok (.iaload, 1) := by decide +kernel
theorem d_M_cell_59 : decode zy_M_cell.2.1 59 = .ok (.ifCond .ne (8), 3) := by decide +kernel
theorem d_M_cell_62 : decode zy_M_cell.2.1 62 = .ok (.iload_n 3, 1) := by decide +kernel
theorem d_M_cell_63 : decode zy_M_cell.2.1 63 = .ok (.i2b, 1) := by decide +kernel
theorem d_M_cell_64 : decode zy_M_cell.2.1 64 = .ok (.goto (19), 3) := by decide +kernel
theorem d_M_cell_67 : decode zy_M_cell.2.1 67 = .ok (.aload_n 0, 1) := by decide +kernel
theorem d_M_cell_68 : decode zy_M_cell.2.1 68 = .ok (.getfield 91, 3) := by decide +kernel
theorem d_M_cell_71 : decode zy_M_cell.2.1 71 = .ok (.iload_n 1, 1) := by decide +kernel
theorem d_M_cell_72 : decode zy_M_cell.2.1 72 = .ok (.iaload, 1) := by decide +kernel
theorem d_M_cell_73 : decode zy_M_cell.2.1 73 = .ok (.iconst 1, 1) := by decide +kernel
theorem d_M_cell_74 : decode zy_M_cell.2.1 74 = .ok (.if_icmp .ne (8), 3) := by decide +kernel
theorem d_M_cell_77 : decode zy_M_cell.2.1 77 = .ok (.iload_n 3, 1) := by decide +kernel
theorem d_M_cell_78 : decode zy_M_cell.2.1 78 = .ok (.i2s, 1) := by decide +kernel
theorem d_M_cell_79 : decode zy_M_cell.2.1 79 = .ok (.goto (4), 3) := by decide +kernel
theorem d_M_cell_82 : decode zy_M_cell.2.1 82 = .ok (.iload_n 3, 1) := by decide +kernel
theorem d_M_cell_83 : decode zy_M_cell.2.1 83 = .ok (.iastore, 1) := by decide +kernel
theorem d_M_cell_84 : decode zy_M_cell.2.1 84 = .ok (.iconst 1, 1) := by decide +kernel
theorem d_M_cell_85 : decode zy_M_cell.2.1 85 = .ok (.ireturn, 1) := by decide +kernel
theorem d_M_copy_0 : decode zy_M_copy.2.1 0 = .ok (.iload_n 1, 1) := by decide +kernel
theorem d_M_copy_1 : decode zy_M_copy.2.1 1 = .ok (.invokestatic 339, 3) := by decide +kernel
theorem d_M_copy_4 : decode zy_M_copy.2.1 4 = .ok (.ifCond .eq (10), 3) := by decide +kernel
theorem d_M_copy_7 : decode zy_M_copy.2.1 7 = .ok (.iload_n 3, 1) := by decide +kernel
theorem d_M_copy_8 : decode zy_M_copy.2.1 8 = .ok (.invokestatic 339, 3) := by decide +kernel
theorem d_M_copy_11 : decode zy_M_copy.2.1 11 = .ok (.ifCond .ne (6), 3) := by decide +kernel
theorem d_M_copy_14 : decode zy_M_copy.2.1 14 = .ok (.bipush (-2), 2) := by decide +kernel
theorem d_M_copy_16 : decode zy_M_copy.2.1 16 = .ok (.ireturn, 1) := by decide +kernel
theorem d_M_copy_17 : decode zy_M_copy.2.1 17 = .ok (.aload_n 0, 1) := by decide +kernel
theorem d_M_copy_18 : decode zy_M_copy.2.1 18 = .ok (.getfield 91, 3) := by decide +kernel
theorem d_M_copy_21 : decode zy_M_copy.2.1 21 = .ok (.iload_n 1, 1) := by decide +kernel
theorem d_M_copy_22 : decode zy_M_copy.2.1 22 = .ok (.iaload, 1) := by decide +kernel
theorem d_M_copy_23 : decode zy_M_copy.2.1 23 = .ok (.ifCond .lt (12), 3) := by decide +kernel
theorem d_M_copy_26 : decode zy_M_copy.2.1 26 = .ok (.aload_n 0, 1) := by decide +kernel
theorem d_M_copy_27 : decode zy_M_copy.2.1 27 = .ok (.getfield 91, 3) := by decide +kernel
theorem d_M_copy_30 : decode zy_M_copy.2.1 30 = .ok (.iload_n 3, 1) := by decide +kernel
theorem d_M_copy_31 : decode zy_M_copy.2.1 31 = .ok (.iaload, 1) := by decide +kernel
theorem d_M_copy_32 : decode zy_M_copy.2.1 32 = .ok (.ifCond .ge (6), 3) := by decide +kernel
theorem d_M_copy_35 : decode zy_M_copy.2.1 35 = .ok (.bipush (-11), 2) := by decide +kernel
theorem d_M_copy_37 : decode zy_M_copy.2.1 37 = .ok (.ireturn, 1) := by decide +kernel
theorem d_M_copy_38 : decode zy_M_copy.2.1 38 = .ok (.aload_n 0, 1) := by decide +kernel
theorem d_M_copy_39 : decode zy_M_copy.2.1 39 = .ok (.getfield 91, 3) := by decide +kernel
theorem d_M_copy_42 : decode zy_M_copy.2.1 42 = .ok (.iload_n 1, 1) := by decide +kernel
theorem d_M_copy_43 : decode zy_M_copy.2.1 43 = .ok (.iaload, 1) := by decide +kernel
theorem d_M_copy_44 : decode zy_M_copy.2.1 44 = .ok (.aload_n 0, 1) := by decide +kernel
theorem d_M_copy_45 : decode zy_M_copy.2.1 45 = .ok (.getfield 91, 3) := by decide +kernel
theorem d_M_copy_48 : decode zy_M_copy.2.1 48 = .ok (.iload_n 3, 1) := by decide +kernel
theorem d_M_copy_49 : decode zy_M_copy.2.1 49 = .ok (.iaload, 1) := by decide +kernel
theorem d_M_copy_50 : decode zy_M_copy.2.1 50 = .ok (.if_icmp .eq (6), 3) := by decide +kernel
theorem d_M_copy_53 : decode zy_M_copy.2.1 53 = .ok (.bipush (-13), 2) := by decide +kernel
theorem d_M_copy_55 : decode zy_M_copy.2.1 55 = .ok (.ireturn, 1) := by decide +kernel
theorem d_M_copy_56 : decode zy_M_copy.2.1 56 = .ok (.iload 5, 2) := by decide +kernel
theorem d_M_copy_58 : decode zy_M_copy.2.1 58 = .ok (.ifCond .lt (39), 3) := by decide +kernel
theorem d_M_copy_61 : decode zy_M_copy.2.1 61 = .ok (.iload_n 2, 1) := by decide +kernel
theorem d_M_copy_62 : decode zy_M_copy.2.1 62 = .ok (.ifCond .lt (35), 3) := by decide +kernel
theorem d_M_copy_65 : decode zy_M_copy.2.1 65 = .ok (.iload 4, 2) := by decide +kernel
theorem d_M_copy_67 : decode zy_M_copy.2.1 67 = .ok (.ifCond .lt (30), 3) := by decide +kernel
theorem d_M_copy_70 : decode zy_M_copy.2.1 70 = .ok (.iload_n 2, 1) := by decide +kernel
theorem d_M_copy_71 : decode zy_M_copy.2.1 71 = .ok (.aload_n 0, 1) := by decide +kernel
theorem d_M_copy_72 : decode zy_M_copy.2.1 72 = .ok (.getfield 94, 3) := by decide +kernel
theorem d_M_copy_75 : decode zy_M_copy.2.1 75 = .ok (.iload_n 1, 1) := by decide +kernel
theorem d_M_copy_76 : decode zy_M_copy.2.1 76 = .ok (.iaload, 1) := by decide +kernel
theorem d_M_copy_77 : decode zy_M_copy.2.1 77 = .ok (.iload 5, 2) := by decide +kernel
theorem d_M_copy_79 : decode zy_M_copy.2.1 79 = .ok (.isub, 1) := by decide +kernel
theorem d_M_copy_80 : decode zy_M_copy.2.1 80 = .ok (.if_icmp .gt (17), 3) := by decide +kernel
theorem d_M_copy_83 : decode zy_M_copy.2.1 83 = .ok (.iload 4, 2) := by decide +kernel
theorem d_M_copy_85 : decode zy_M_copy.2.1 85 = .ok (.aload_n 0, 1) := by decide +kernel
theorem d_M_copy_86 : decode zy_M_copy.2.1 86 = .ok (.getfield 94, 3) := by decide +kernel
theorem d_M_copy_89 : decode zy_M_copy.2.1 89 = .ok (.iload_n 3, 1) := by decide +kernel
theorem d_M_copy_90 : decode zy_M_copy.2.1 90 = .ok (.iaload, 1) := by decide +kernel
theorem d_M_copy_91 : decode zy_M_copy.2.1 91 = .ok (.iload 5, 2) := by decide +kernel
theorem d_M_copy_93 : decode zy_M_copy.2.1 93 = .ok (.isub, 1) := by decide +kernel
theorem d_M_copy_94 : decode zy_M_copy.2.1 94 = .ok (.if_icmp .le (6), 3) := by decide +kernel
theorem d_M_copy_97 : decode zy_M_copy.2.1 97 = .ok (.bipush (-12), 2) := by decide +kernel
theorem d_M_copy_99 : decode zy_M_copy.2.1 99 = .ok (.ireturn, 1) := by decide +kernel
theorem d_M_copy_100 : decode zy_M_copy.2.1 100 = .ok (.iconst 0, 1) := by decide +kernel
theorem d_M_copy_101 : decode zy_M_copy.2.1 101 = .ok (.istore 6, 2) := by decide +kernel
theorem d_M_copy_103 : decode zy_M_copy.2.1 103 = .ok (.iload 6, 2) := by decide +kernel
theorem d_M_copy_105 : decode zy_M_copy.2.1 105 = .ok (.iload 5, 2) := by decide +kernel
theorem d_M_copy_107 : decode zy_M_copy.2.1 107 = .ok (.if_icmp .ge (30), 3) := by decide +kernel
theorem d_M_copy_110 : decode zy_M_copy.2.1 110 = .ok (.aload_n 0, 1) := by decide +kernel
theorem d_M_copy_111 : decode zy_M_copy.2.1 111 = .ok (.getfield 100, 3) := by decide +kernel
theorem d_M_copy_114 : decode zy_M_copy.2.1 114 = .ok (.iload 6, 2) := by decide +kernel
theorem d_M_copy_116 : decode zy_M_copy.2.1 116 = .ok (.aload_n 0, 1) := by decide +kernel
theorem d_M_copy_117 : decode zy_M_copy.2.1 117 = .ok (.getfield 97, 3) := by decide +kernel
theorem d_M_copy_120 : decode zy_M_copy.2.1 120 = .ok (.bipush 40, 2) := by decide +kernel
theorem d_M_copy_122 : decode zy_M_copy.2.1 122 = .ok (.iload_n 1, 1) := by decide +kernel
theorem d_M_copy_123 : decode zy_M_copy.2.1 123 = .ok (.imul, 1) := by decide +kernel
theorem d_M_copy_124 : decode zy_M_copy.2.1 124 = .ok (.iload_n 2, 1) := by decide +kernel
theorem d_M_copy_125 : decode zy_M_copy.2.1 125 = .ok (.iadd, 1) := by decide +kernel
theorem d_M_copy_126 : decode zy_M_copy.2.1 126 = .ok (.iload 6, 2) := by decide +kernel
theorem d_M_copy_128 : decode zy_M_copy.2.1 128 = .ok (.iadd, 1) := by decide +kernel
theorem d_M_copy_129 : decode zy_M_copy.2.1 129 = .ok (.iaload, 1) := by decide +kernel
theorem d_M_copy_130 : decode zy_M_copy.2.1 130 = .ok (.iastore, 1) := by decide +kernel
theorem d_M_copy_131 : decode zy_M_copy.2.1 131 = .ok (.iinc 6 1, 3) := by decide +kernel
theorem d_M_copy_134 : decode zy_M_copy.2.1 134 = .ok (.goto (-31), 3) := by decide +kernel
theorem d_M_copy_137 : decode zy_M_copy.2.1 137 = .ok (.iconst 0, 1) := by decide +kernel
theorem d_M_copy_138 : decode zy_M_copy.2.1 138 = .ok (.istore 6, 2) := by decide +kernel
theorem d_M_copy_140 : decode zy_M_copy.2.1 140 = .ok (.iload 6, 2) := by decide +kernel
theorem d_M_copy_142 : decode zy_M_copy.2.1 142 = .ok (.iload 5, 2) := by decide +kernel
theorem d_M_copy_144 : decode zy_M_copy.2.1 144 = .ok (.if_icmp .ge (31), 3) := by decide +kernel
theorem d_M_copy_147 : decode zy_M_copy.2.1 147 = .ok (.aload_n 0, 1) := by decide +kernel
theorem d_M_copy_148 : decode zy_M_copy.2.1 148 = .ok (.getfield 97, 3) := by decide +kernel
theorem d_M_copy_151 : decode zy_M_copy.2.1 151 = .ok (.bipush 40, 2) := by decide +kernel
theorem d_M_copy_153 : decode zy_M_copy.2.1 153 = .ok (.iload_n 3, 1) := by decide +kernel
theorem d_M_copy_154 : decode zy_M_copy.2.1 154 = .ok (.imul, 1) := by decide +kernel
theorem d_M_copy_155 : decode zy_M_copy.2.1 155 = .ok (.iload 4, 2) := by decide +kernel
theorem d_M_copy_157 : decode zy_M_copy.2.1 157 = .ok (.iadd, 1) := by decide +kernel
theorem d_M_copy_158 : decode zy_M_copy.2.1 158 = .ok (.iload 6, 2) := by decide +kernel
theorem d_M_copy_160 : decode zy_M_copy.2.1 160 = .ok (.iadd, 1) := by decide +kernel
theorem d_M_copy_161 : decode zy_M_copy.2.1 161 = .ok (.aload_n 0, 1) := by decide +kernel
theorem d_M_copy_162 : decode zy_M_copy.2.1 162 = .ok (.getfield 100, 3) := by decide +kernel
theorem d_M_copy_165 : decode zy_M_copy.2.1 165 = .ok (.iload 6, 2) := by decide +kernel
theorem d_M_copy_167 : decode zy_M_copy.2.1 167 = .ok (.iaload, 1) := by decide +kernel
theorem d_M_copy_168 : decode zy_M_copy.2.1 168 = .ok (.iastore, 1) := by decide +kernel
theorem d_M_copy_169 : decode zy_M_copy.2.1 169 = .ok (.iinc 6 1, 3) := by decide +kernel
theorem d_M_copy_172 : decode zy_M_copy.2.1 172 = .ok (.goto (-32), 3) := by decide +kernel
theorem d_M_copy_175 : decode zy_M_copy.2.1 175 = .ok (.iload 5, 2) := by decide +kernel
theorem d_M_copy_177 : decode zy_M_copy.2.1 177 = .ok (.ireturn, 1) := by decide +kernel
theorem d_M_costOf_0 : decode zy_M_costOf.2.1 0 = .ok (.aload_n 0, 1) := by decide +kernel
theorem d_M_costOf_1 : decode zy_M_costOf.2.1 1 = .ok (.iconst 1, 1) := by decide +kernel
theorem d_M_costOf_2 : decode zy_M_costOf.2.1 2 = .ok (.iload_n 1, 1) := by decide +kernel
theorem d_M_costOf_3 : decode zy_M_costOf.2.1 3 = .ok (.iload_n 2, 1) := by decide +kernel
theorem d_M_costOf_4 : decode zy_M_costOf.2.1 4 = .ok (.invokevirtual 260, 3) := by decide +kernel
theorem d_M_costOf_7 : decode zy_M_costOf.2.1 7 = .ok (.iconst 1, 1) := by decide +kernel
theorem d_M_costOf_8 : decode zy_M_costOf.2.1 8 = .ok (.bipush 99, 2) := by decide +kernel
theorem d_M_costOf_10 : decode zy_M_costOf.2.1 10 = .ok (.invokestatic 263, 3) := by decide +kernel
theorem d_M_costOf_13 : decode zy_M_costOf.2.1 13 = .ok (.ireturn, 1) := by decide +kernel
theorem d_M_countsOf_0 : decode zy_M_countsOf.2.1 0 = .ok (.iconst 0, 1) := by decide +kernel
theorem d_M_countsOf_1 : decode zy_M_countsOf.2.1 1 = .ok (.istore_n 2, 1) := by decide +kernel
theorem d_M_countsOf_2 : decode zy_M_countsOf.2.1 2 = .ok (.iconst 0, 1) := by decide +kernel
theorem d_M_countsOf_3 : decode zy_M_countsOf.2.1 3 = .ok (.istore_n 3, 1) := by decide +kernel
theorem d_M_countsOf_4 : decode zy_M_countsOf.2.1 4 = .ok (.iload_n 3, 1) := by decide +kernel
theorem d_M_countsOf_5 : decode zy_M_countsOf.2.1 5 = .ok (.aload_n 0, 1) := by decide +kernel
theorem d_M_countsOf_6 : decode zy_M_countsOf.2.1 6 = .ok (.getfield 106, 3) := by decide +kernel
theorem d_M_countsOf_9 : decode zy_M_countsOf.2.1 9 = .ok (.if_icmp .ge (26), 3) := by decide +kernel
theorem d_M_countsOf_12 : decode zy_M_countsOf.2.1 12 = .ok (.iload_n 2, 1) := by decide +kernel
theorem d_M_countsOf_13 : decode zy_M_countsOf.2.1 13 = .ok (.aload_n 0, 1) := by decide +kernel
theorem d_M_countsOf_14 : decode zy_M_countsOf.2.1 14 = .ok (.iload_n 1, 1) := by decide +kernel
theorem d_M_countsOf_15 : decode zy_M_countsOf.2.1 15 = .ok (.iload_n 3, 1) := by decide +kernel
theorem d_M_countsOf_16 : decode zy_M_countsOf.2.1 16 = .ok (.invokevirtual 147, 3) := by decide +kernel
theorem d_M_countsOf_19 : decode zy_M_countsOf.2.1 19 = .ok (.ifCond .eq (7), 3) := by decide +kernel
theorem d_M_countsOf_22 : decode zy_M_countsOf.2.1 22 = .ok (.iconst 1, 1) := by decide +kernel
theorem d_M_countsOf_23 : decode zy_M_countsOf.2.1 23 = .ok (.goto (4), 3) := by decide +kernel
theorem d_M_countsOf_26 : decode zy_M_countsOf.2.1 26 = .ok (.iconst 0, 1) := by decide +kernel
theorem d_M_countsOf_27 : decode zy_M_countsOf.2.1 27 = .ok (.iadd, 1) := by decide +kernel
theorem d_M_countsOf_28 : decode zy_M_countsOf.2.1 28 = .ok (.istore_n 2, 1) := by decide +kernel
theorem d_M_countsOf_29 : decode zy_M_countsOf.2.1 29 = .ok (.iinc 3 1, 3) := by decide +kernel
theorem d_M_countsOf_32 : decode zy_M_countsOf.2.1 32 = .ok (.goto (-28), 3) := by decide +kernel
theorem d_M_countsOf_35 : decode zy_M_countsOf.2.1 35 = .ok (.aload_n 0, 1) := by decide +kernel
theorem d_M_countsOf_36 : decode zy_M_countsOf.2.1 36 = .ok (.getfield 21, 3) := by decide +kernel
theorem d_M_countsOf_39 : decode zy_M_countsOf.2.1 39 = .ok (.iload_n 1, 1) := by decide +kernel
theorem d_M_countsOf_40 : decode zy_M_countsOf.2.1 40 = .ok (.iaload, 1) := by decide +kernel
theorem d_M_countsOf_41 : decode zy_M_countsOf.2.1 41 = .ok (.tableswitch (69) (1) (5) #[35, 69, 46, 59, 63], 35) := by decide +kernel
theorem d_M_countsOf_76 : decode zy_M_countsOf.2.1 76 = .ok (.iload_n 2, 1) := by decide +kernel
theorem d_M_countsOf_77 : decode zy_M_countsOf.2.1 77 = .ok (.iconst 3, 1) := by decide +kernel
theorem d_M_countsOf_78 : decode zy_M_countsOf.2.1 78 = .ok (.if_icmp .le (7), 3) := by decide +kernel
theorem d_M_countsOf_81 : decode zy_M_countsOf.2.1 81 = .ok (.iconst 3, 1) := by decide +kernel
theorem d_M_countsOf_82 : decode zy_M_countsOf.2.1 82 = .ok (.goto (4), 3) := by decide +kernel
theorem d_M_countsOf_85 : decode zy_M_countsOf.2.1 85 = .ok (.iload_n 2, 1) := by decide +kernel
theorem d_M_countsOf_86 : decode zy_M_countsOf.2.1 86 = .ok (.ireturn, 1) := by decide +kernel
theorem d_M_countsOf_87 : decode zy_M_countsOf.2.1 87 = .ok (.iload_n 2, 1) := by decide +kernel
theorem d_M_countsOf_88 : decode zy_M_countsOf.2.1 88 = .ok (.iconst 3, 1) := by decide +kernel
theorem d_M_countsOf_89 : decode zy_M_countsOf.2.1 89 = .ok (.if_icmp .le (7), 3) := by decide +kernel
theorem d_M_countsOf_92 : decode zy_M_countsOf.2.1 92 = .ok (.iconst 4, 1) := by decide +kernel
theorem d_M_countsOf_93 : decode zy_M_countsOf.2.1 93 = .ok (.goto (6), 3) := by decide +kernel
theorem d_M_countsOf_96 : decode zy_M_countsOf.2.1 96 = .ok (.iload_n 2, 1) := by decide +kernel
theorem d_M_countsOf_97 : decode zy_M_countsOf.2.1 97 = .ok (.iconst 1, 1) := by decide +kernel
theorem d_M_countsOf_98 : decode zy_M_countsOf.2.1 98 = .ok (.iadd, 1) := by decide +kernel
theorem d_M_countsOf_99 : decode zy_M_countsOf.2.1 99 = .ok (.ireturn, 1) := by decide +kernel
theorem d_M_countsOf_100 : decode zy_M_countsOf.2.1 100 = .ok (.iconst 2, 1) := by decide +kernel
theorem d_M_countsOf_101 : decode zy_M_countsOf.2.1 101 = .ok (.iload_n 2, 1) := by decide +kernel
theorem d_M_countsOf_102 : decode zy_M_countsOf.2.1 102 = .ok (.imul, 1) := by decide +kernel
theorem d_M_countsOf_103 : decode zy_M_countsOf.2.1 103 = .ok (.ireturn, 1) := by decide +kernel
theorem d_M_countsOf_104 : decode zy_M_countsOf.2.1 104 = .ok (.iload_n 2, 1) := by decide +kernel
theorem d_M_countsOf_105 : decode zy_M_countsOf.2.1 105 = .ok (.iconst 1, 1) := by decide +kernel
theorem d_M_countsOf_106 : decode zy_M_countsOf.2.1 106 = .ok (.iadd, 1) := by decide +kernel
theorem d_M_countsOf_107 : decode zy_M_countsOf.2.1 107 = .ok (.iconst 2, 1) := by decide +kernel
theorem d_M_countsOf_108 : decode zy_M_countsOf.2.1 108 = .ok (.idiv, 1) := by decide +kernel
theorem d_M_countsOf_109 : decode zy_M_countsOf.2.1 109 = .ok (.ireturn, 1) := by decide +kernel
theorem d_M_countsOf_110 : decode zy_M_countsOf.2.1 110 = .ok (.iload_n 2, 1) := by decide +kernel
theorem d_M_countsOf_111 : decode zy_M_countsOf.2.1 111 = .ok (.ireturn, 1) := by decide +kernel
theorem d_M_findCan_0 : decode zy_M_findCan.2.1 0 = .ok (.iconst 0, 1) := by decide +kernel
theorem d_M_findCan_1 : decode zy_M_findCan.2.1 1 = .ok (.istore_n 1, 1) := by decide +kernel
theorem d_M_findCan_2 : decode zy_M_findCan.2.1 2 = .ok (.iload_n 1, 1) := by decide +kernel
theorem d_M_findCan_3 : decode zy_M_findCan.2.1 3 = .ok (.aload_n 0, 1) := by decide +kernel
theorem d_M_findCan_4 : decode zy_M_findCan.2.1 4 = .ok (.getfield 113, 3) := by decide +kernel
theorem d_M_findCan_7 : decode zy_M_findCan.2.1 7 = .ok (.if_icmp .ge (57), 3) := by decide +kernel
theorem d_M_findCan_10 : decode zy_M_findCan.2.1 10 = .ok (.aload_n 0, 1) := by decide +kernel
theorem d_M_findCan_11 : decode zy_M_findCan.2.1 11 = .ok (.getfield 67, 3) := by decide +kernel
theorem d_M_findCan_14 : decode zy_M_findCan.2.1 14 = .ok (.iload_n 1, 1) := by decide +kernel
theorem d_M_findCan_15 : decode zy_M_findCan.2.1 15 = .ok (.iconst 0, 1) := by decide +kernel
theorem d_M_findCan_16 : decode zy_M_findCan.2.1 16 = .ok (.iastore, 1) := by decide +kernel
theorem d_M_findCan_17 : decode zy_M_findCan.2.1 17 = .ok (.iconst 0, 1) := by decide +kernel
theorem d_M_findCan_18 : decode zy_M_findCan.2.1 18 = .ok (.istore_n 2, 1) := by decide +kernel
theorem d_M_findCan_19 : decode zy_M_findCan.2.1 19 = .ok (.iload_n 2, 1) := by decide +kernel
theorem d_M_findCan_20 : decode zy_M_findCan.2.1 20 = .ok (.aload_n 0, 1) := by decide +kernel
theorem d_M_findCan_21 : decode zy_M_findCan.2.1 21 = .ok (.getfield 106, 3) := by decide +kernel
theorem d_M_findCan_24 : decode zy_M_findCan.2.1 24 = .ok (.if_icmp .ge (34), 3) := by decide +kernel
theorem d_M_findCan_27 : decode zy_M_findCan.2.1 27 = .ok (.aload_n 0, 1) := by decide +kernel
theorem d_M_findCan_28 : decode zy_M_findCan.2.1 28 = .ok (.getfield 67, 3) := by decide +kernel
theorem d_M_findCan_31 : decode zy_M_findCan.2.1 31 = .ok (.iload_n 1, 1) := by decide +kernel
theorem d_M_findCan_32 : decode zy_M_findCan.2.1 32 = .ok (.dup2, 1) := by decide +kernel
theorem d_M_findCan_33 : decode zy_M_findCan.2.1 33 = .ok (.iaload, 1) := by decide +kernel
theorem d_M_findCan_34 : decode zy_M_findCan.2.1 34 = .ok (.aload_n 0, 1) := by decide +kernel
theorem d_M_findCan_35 : decode zy_M_findCan.2.1 35 = .ok (.iload_n 1, 1) := by decide +kernel
theorem d_M_findCan_36 : decode zy_M_findCan.2.1 36 = .ok (.iload_n 2, 1) := by decide +kernel
theorem d_M_findCan_37 : decode zy_M_findCan.2.1 37 = .ok (.invokevirtual 147, 3) := by decide +kernel
theorem d_M_findCan_40 : decode zy_M_findCan.2.1 40 = .ok (.ifCond .eq (9), 3) := by decide +kernel
theorem d_M_findCan_43 : decode zy_M_findCan.2.1 43 = .ok (.iconst 1, 1) := by decide +kernel
theorem d_M_findCan_44 : decode zy_M_findCan.2.1 44 = .ok (.iload_n 2, 1) := by decide +kernel
theorem d_M_findCan_45 : decode zy_M_findCan.2.1 45 = .ok (.ishl, 1) := by decide +kernel
theorem d_M_findCan_46 : decode zy_M_findCan.2.1 46 = .ok (.goto (4), 3) := by decide +kernel
theorem d_M_findCan_49 : decode zy_M_findCan.2.1 49 = .ok (.iconst 0, 1) := by decide +kernel
theorem d_M_findCan_50 : decode zy_M_findCan.2.1 50 = .ok (.ior, 1) := by decide +kernel
theorem d_M_findCan_51 : decode zy_M_findCan.2.1 51 = .ok (.iastore, 1) := by decide +kernel
theorem d_M_findCan_52 : decode zy_M_findCan.2.1 52 = .ok (.iinc 2 1, 3) := by decide +kernel
theorem d_M_findCan_55 : decode zy_M_findCan.2.1 55 = .ok (.goto (-36), 3) := by decide +kernel
theorem d_M_findCan_58 : decode zy_M_findCan.2.1 58 = .ok (.iinc 1 1, 3) := by decide +kernel
theorem d_M_findCan_61 : decode zy_M_findCan.2.1 61 = .ok (.goto (-59), 3) := by decide +kernel
theorem d_M_findCan_64 : decode zy_M_findCan.2.1 64 = .ok (.return_, 1) := by decide +kernel
theorem d_M_isOne_0 : decode zy_M_isOne.2.1 0 = .ok (.iload_n 1, 1) := by decide +kernel
theorem d_M_isOne_1 : decode zy_M_isOne.2.1 1 = .ok (.i2l, 1) := by decide +kernel
theorem d_M_isOne_2 : decode zy_M_isOne.2.1 2 = .ok (.lconst 0, 1) := by decide +kernel
theorem d_M_isOne_3 : decode zy_M_isOne.2.1 3 = .ok (.ldc2_w 118, 3) := by decide +kernel
theorem d_M_isOne_6 : decode zy_M_isOne.2.1 6 = .ok (.invokestatic 109, 3) := by decide +kernel
theorem d_M_isOne_9 : decode zy_M_isOne.2.1 9 = .ok (.ifCond .eq (22), 3) := by decide +kernel
theorem d_M_isOne_12 : decode zy_M_isOne.2.1 12 = .ok (.iload_n 2, 1) := by decide +kernel
theorem d_M_isOne_13 : decode zy_M_isOne.2.1 13 = .ok (.ifCond .lt (18), 3) := by decide +kernel
theorem d_M_isOne_16 : decode zy_M_isOne.2.1 16 = .ok (.aload_n 0, 1) := by decide +kernel
theorem d_M_isOne_17 : decode zy_M_isOne.2.1 17 = .ok (.iload_n 2, 1) := by decide +kernel
theorem d_M_isOne_18 : decode zy_M_isOne.2.1 18 = .ok (.bipush 100, 2) := by decide +kernel
theorem d_M_isOne_20 : decode zy_M_isOne.2.1 20 = .ok (.idiv, 1) := by decide +kernel
theorem d_M_isOne_21 : decode zy_M_isOne.2.1 21 = .ok (.invokevirtual 120, 3) := by decide +kernel
theorem d_M_isOne_24 : decode zy_M_isOne.2.1 24 = .ok (.ifCond .eq (7), 3) := by decide +kernel
theorem d_M_isOne_27 : decode zy_M_isOne.2.1 27 = .ok (.iconst 1, 1) := by decide +kernel
theorem d_M_isOne_28 : decode zy_M_isOne.2.1 28 = .ok (.goto (4), 3) := by decide +kernel
theorem d_M_isOne_31 : decode zy_M_isOne.2.1 31 = .ok (.iconst 0, 1) := by decide +kernel
theorem d_M_isOne_32 : decode zy_M_isOne.2.1 32 = .ok (.ireturn, 1) := by decide +kernel
theorem d_M_judge_0 : decode zy_M_judge.2.1 0 = .ok (.aload_n 0, 1) := by decide +kernel
theorem d_M_judge_1 : decode zy_M_judge.2.1 1 = .ok (.iload_n 1, 1) := by decide +kernel
theorem d_M_judge_2 : decode zy_M_judge.2.1 2 = .ok (.invokevirtual 276, 3) := by decide +kernel
theorem d_M_judge_5 : decode zy_M_judge.2.1 5 = .ok (.ifCond .eq (10), 3) := by decide +kernel
theorem d_M_judge_8 : decode zy_M_judge.2.1 8 = .ok (.iload_n 2, 1) := by decide +kernel
theorem d_M_judge_9 : decode zy_M_judge.2.1 9 = .ok (.invokestatic 339, 3) := by decide +kernel
theorem d_M_judge_12 : decode zy_M_judge.2.1 12 = .ok (.ifCond .ne (6), 3) := by decide +kernel
theorem d_M_judge_15 : decode zy_M_judge.2.1 15 = .ok (.bipush (-2), 2) := by decide +kernel
theorem d_M_judge_17 : decode zy_M_judge.2.1 17 = .ok (.ireturn, 1) := by decide +kernel
theorem d_M_judge_18 : decode zy_M_judge.2.1 18 = .ok (.aload_n 0, 1) := by decide +kernel
theorem d_M_judge_19 : decode zy_M_judge.2.1 19 = .ok (.getfield 91, 3) := by decide +kernel
theorem d_M_judge_22 : decode zy_M_judge.2.1 22 = .ok (.iload_n 2, 1) := by decide +kernel
theorem d_M_judge_23 : decode zy_M_judge.2.1 23 = .ok (.iaload, 1) := by decide +kernel
theorem d_M_judge_24 : decode zy_M_judge.2.1 24 = .ok (.ifCond .ge (6), 3) := by decide +kernel
theorem d_M_judge_27 : decode zy_M_judge.2.1 27 = .ok (.bipush (-11), 2) := by decide +kernel
theorem d_M_judge_29 : decode zy_M_judge.2.1 29 = .ok (.ireturn, 1) := by decide +kernel
theorem d_M_judge_30 : decode zy_M_judge.2.1 30 = .ok (.aload_n 0, 1) := by decide +kernel
theorem d_M_judge_31 : decode zy_M_judge.2.1 31 = .ok (.getfield 94, 3) := by decide +kernel
theorem d_M_judge_34 : decode zy_M_judge.2.1 34 = .ok (.iload_n 2, 1) := by decide +kernel
theorem d_M_judge_35 : decode zy_M_judge.2.1 35 = .ok (.iaload, 1) := by decide +kernel
theorem d_M_judge_36 : decode zy_M_judge.2.1 36 = .ok (.aload_n 0, 1) := by decide +kernel
theorem d_M_judge_37 : decode zy_M_judge.2.1 37 = .ok (.getfield 106, 3) := by decide +kernel
theorem d_M_judge_40 : decode zy_M_judge.2.1 40 = .ok (.if_icmp .eq (6), 3) := by decide +kernel
theorem d_M_judge_43 : decode zy_M_judge.2.1 43 = .ok (.bipush (-2), 2) := by decide +kernel
theorem d_M_judge_45 : decode zy_M_judge.2.1 45 = .ok (.ireturn, 1) := by decide +kernel
theorem d_M_judge_46 : decode zy_M_judge.2.1 46 = .ok (.iload_n 1, 1) := by decide +kernel
theorem d_M_judge_47 : decode zy_M_judge.2.1 47 = .ok (.istore_n 3, 1) := by decide +kernel
theorem d_M_judge_48 : decode zy_M_judge.2.1 48 = .ok (.iconst 0, 1) := by decide +kernel
theorem d_M_judge_49 : decode zy_M_judge.2.1 49 = .ok (.istore 4, 2) := by decide +kernel
theorem d_M_judge_51 : decode zy_M_judge.2.1 51 = .ok (.iload 4, 2) := by decide +kernel
theorem d_M_judge_53 : decode zy_M_judge.2.1 53 = .ok (.aload_n 0, 1) := by decide +kernel
theorem d_M_judge_54 : decode zy_M_judge.2.1 54 = .ok (.getfield 106, 3) := by decide +kernel
theorem d_M_judge_57 : decode zy_M_judge.2.1 57 = .ok (.if_icmp .ge (103), 3) := by decide +kernel
theorem d_M_judge_60 : decode zy_M_judge.2.1 60 = .ok (.aload_n 0, 1) := by decide +kernel
theorem d_M_judge_61 : decode zy_M_judge.2.1 61 = .ok (.getfield 97, 3) := by decide +kernel
theorem d_M_judge_64 : decode zy_M_judge.2.1 64 = .ok (.bipush 40, 2) := by decide +kernel
theorem d_M_judge_66 : decode zy_M_judge.2.1 66 = .ok (.iload_n 2, 1) := by decide +kernel
theorem d_M_judge_67 : decode zy_M_judge.2.1 67 = .ok (.imul, 1) := by decide +kernel
theorem d_M_judge_68 : decode zy_M_judge.2.1 68 = .ok (.iload 4, 2) := by decide +kernel
theorem d_M_judge_70 : decode zy_M_judge.2.1 70 = .ok (.iadd, 1) := by decide +kernel
theorem d_M_judge_71 : decode zy_M_judge.2.1 71 = .ok (.iaload, 1) := by decide +kernel
theorem d_M_judge_72 : decode zy_M_judge.2.1 72 = .ok (.istore 5, 2) := by decide +kernel
theorem d_M_judge_74 : decode zy_M_judge.2.1 74 = .ok (.iload 5, 2) := by decide +kernel
theorem d_M_judge_76 : decode zy_M_judge.2.1 76 = .ok (.iconst (-1), 1) := by decide +kernel
theorem d_M_judge_77 : decode zy_M_judge.2.1 77 = .ok (.if_icmp .ne (19), 3) := by decide +kernel
theorem d_M_judge_80 : decode zy_M_judge.2.1 80 = .ok (.aload_n 0, 1) := by decide +kernel
theorem d_M_judge_81 : decode zy_M_judge.2.1 81 = .ok (.getfield 13, 3) := by decide +kernel
theorem d_M_judge_84 : decode zy_M_judge.2.1 84 = .ok (.iload 4, 2) := by decide +kernel
theorem d_M_judge_86 : decode zy_M_judge.2.1 86 = .ok (.baload, 1) := by decide +kernel
theorem d_M_judge_87 : decode zy_M_judge.2.1 87 = .ok (.ifCond .eq (9), 3) := by decide +kernel
theorem d_M_judge_90 : decode zy_M_judge.2.1 90 = .ok (.bipush 30, 2) := by decide +kernel
theorem d_M_judge_92 : decode zy_M_judge.2.1 92 = .ok (.iload 4, 2) := by decide +kernel
theorem d_M_judge_94 : decode zy_M_judge.2.1 94 = .ok (.iadd, 1) := by decide +kernel
theorem d_M_judge_95 : decode zy_M_judge.2.1 95 = .ok (.ireturn, 1) := by decide +kernel
theorem d_M_judge_96 : decode zy_M_judge.2.1 96 = .ok (.iload 5, 2) := by decide +kernel
theorem d_M_judge_98 : decode zy_M_judge.2.1 98 = .ok (.iconst (-1), 1) := by decide +kernel
theorem d_M_judge_99 : decode zy_M_judge.2.1 99 = .ok (.if_icmp .ne (6), 3) := by decide +kernel
theorem d_M_judge_102 : decode zy_M_judge.2.1 102 = .ok (.goto (52), 3) := by decide +kernel
theorem d_M_judge_105 : decode zy_M_judge.2.1 105 = .ok (.aload_n 0, 1) := by decide +kernel
theorem d_M_judge_106 : decode zy_M_judge.2.1 106 = .ok (.iload 5, 2) := by decide +kernel
theorem d_M_judge_108 : decode zy_M_judge.2.1 108 = .ok (.invokevirtual 133, 3) := by decide +kernel
theorem d_M_judge_111 : decode zy_M_judge.2.1 111 = .ok (.ifCond .eq (13), 3) := by decide +kernel
theorem d_M_judge_114 : decode zy_M_judge.2.1 114 = .ok (.iload_n 3, 1) := by decide +kernel
theorem d_M_judge_115 : decode zy_M_judge.2.1 115 = .ok (.iload 5, 2) := by decide +kernel
theorem d_M_judge_117 : decode zy_M_judge.2.1 117 = .ok (.ishr, 1) := by decide +kernel
theorem d_M_judge_118 : decode zy_M_judge.2.1 118 = .ok (.iconst 1, 1) := by decide +kernel
theorem d_M_judge_119 : decode zy_M_judge.2.1 119 = .ok (.iand, 1) := by decide +kernel
theorem d_M_judge_120 : decode zy_M_judge.2.1 120 = .ok (.iconst 1, 1) := by decide +kernel
theorem d_M_judge_121 : decode zy_M_judge.2.1 121 = .ok (.if_icmp .ne (9), 3) := by decide +kernel
theorem d_M_judge_124 : decode zy_M_judge.2.1 124 = .ok (.bipush 10, 2) := by decide +kernel
theorem d_M_judge_126 : decode zy_M_judge.2.1 126 = .ok (.iload 4, 2) := by decide +kernel
theorem d_M_judge_128 : decode zy_M_judge.2.1 128 = .ok (.iadd, 1) := by decide +kernel
theorem d_M_judge_129 : decode zy_M_judge.2.1 129 = .ok (.ireturn, 1) := by decide +kernel
theorem d_M_judge_130 : decode zy_M_judge.2.1 130 = .ok (.aload_n 0, 1) := by decide +kernel
theorem d_M_judge_131 : decode zy_M_judge.2.1 131 = .ok (.iload 5, 2) := by decide +kernel
theorem d_M_judge_133 : decode zy_M_judge.2.1 133 = .ok (.iload 4, 2) := by decide +kernel
theorem d_M_judge_135 : decode zy_M_judge.2.1 135 = .ok (.invokevirtual 147, 3) := by decide +kernel
theorem d_M_judge_138 : decode zy_M_judge.2.1 138 = .ok (.ifCond .ne (9), 3) := by decide +kernel
theorem d_M_judge_141 : decode zy_M_judge.2.1 141 = .ok (.bipush 20, 2) := by decide +kernel
theorem d_M_judge_143 : decode zy_M_judge.2.1 143 = .ok (.iload 4, 2) := by decide +kernel
theorem d_M_judge_145 : decode zy_M_judge.2.1 145 = .ok (.iadd, 1) := by decide +kernel
theorem d_M_judge_146 : decode zy_M_judge.2.1 146 = .ok (.ireturn, 1) := by decide +kernel
theorem d_M_judge_147 : decode zy_M_judge.2.1 147 = .ok (.iload_n 3, 1) := by decide +kernel
theorem d_M_judge_148 : decode zy_M_judge.2.1 148 = .ok (.iconst 1, 1) := by decide +kernel
theorem d_M_judge_149 : decode zy_M_judge.2.1 149 = .ok (.iload 5, 2) := by decide +kernel
theorem d_M_judge_151 : decode zy_M_judge.2.1 151 = .ok (.ishl, 1) := by decide +kernel
theorem d_M_judge_152 : decode zy_M_judge.2.1 152 = .ok (.ior, 1) := by decide +kernel
theorem d_M_judge_153 : decode zy_M_judge.2.1 153 = .ok (.istore_n 3, 1) := by decide +kernel
theorem d_M_judge_154 : decode zy_M_judge.2.1 154 = .ok (.iinc 4 1, 3) := by decide +kernel
theorem d_M_judge_157 : decode zy_M_judge.2.1 157 = .ok (.goto (-106), 3) := by decide +kernel
theorem d_M_judge_160 : decode zy_M_judge.2.1 160 = .ok (.iconst (-1), 1) := by decide +kernel
theorem d_M_judge_161 : decode zy_M_judge.2.1 161 = .ok (.ireturn, 1) := by decide +kernel
theorem d_M_next_0 : decode zy_M_next.2.1 0 = .ok (.aload_n 0, 1) := by decide +kernel
theorem d_M_next_1 : decode zy_M_next.2.1 1 = .ok (.aload_n 0, 1) := by decide +kernel
theorem d_M_next_2 : decode zy_M_next.2.1 2 = .ok (.getfield 169, 3) := by decide +kernel
theorem d_M_next_5 : decode zy_M_next.2.1 5 = .ok (.invokevirtual 180, 3) := by decide +kernel
theorem d_M_next_8 : decode zy_M_next.2.1 8 = .ok (.bipush 32, 2) := by decide +kernel
theorem d_M_next_10 : decode zy_M_next.2.1 10 = .ok (.if_icmp .eq (16), 3) := by decide +kernel
theorem d_M_next_13 : decode zy_M_next.2.1 13 = .ok (.aload_n 0, 1) := by decide +kernel
theorem d_M_next_14 : decode zy_M_next.2.1 14 = .ok (.aload_n 0, 1) := by decide +kernel
theorem d_M_next_15 : decode zy_M_next.2.1 15 = .ok (.getfield 169, 3) := by decide +kernel
theorem d_M_next_18 : decode zy_M_next.2.1 18 = .ok (.invokevirtual 180, 3) := by decide +kernel
theorem d_M_next_21 : decode zy_M_next.2.1 21 = .ok (.bipush 10, 2) := by decide +kernel
theorem d_M_next_23 : decode zy_M_next.2.1 23 = .ok (.if_icmp .ne (16), 3) := by decide +kernel
theorem d_M_next_26 : decode zy_M_next.2.1 26 = .ok (.aload_n 0, 1) := by decide +kernel
theorem d_M_next_27 : decode zy_M_next.2.1 27 = .ok (.dup, 1) := by decide +kernel
theorem d_M_next_28 : decode zy_M_next.2.1 28 = .ok (.getfield 169, 3) := by decide +kernel
theorem d_M_next_31 : decode zy_M_next.2.1 31 = .ok (.iconst 1, 1) := by decide +kernel
theorem d_M_next_32 : decode zy_M_next.2.1 32 = .ok (.iadd, 1) := by decide +kernel
theorem d_M_next_33 : decode zy_M_next.2.1 33 = .ok (.putfield 169, 3) := by decide +kernel
theorem d_M_next_36 : decode zy_M_next.2.1 36 = .ok (.goto (-36), 3) := by decide +kernel
theorem d_M_next_39 : decode zy_M_next.2.1 39 = .ok (.aload_n 0, 1) := by decide +kernel
theorem d_M_next_40 : decode zy_M_next.2.1 40 = .ok (.aload_n 0, 1) := by decide +kernel
theorem d_M_next_41 : decode zy_M_next.2.1 41 = .ok (.getfield 169, 3) := by decide +kernel
theorem d_M_next_44 : decode zy_M_next.2.1 44 = .ok (.putfield 166, 3) := by decide +kernel
theorem d_M_next_47 : decode zy_M_next.2.1 47 = .ok (.aload_n 0, 1) := by decide +kernel
theorem d_M_next_48 : decode zy_M_next.2.1 48 = .ok (.aload_n 0, 1) := by decide +kernel
theorem d_M_next_49 : decode zy_M_next.2.1 49 = .ok (.getfield 169, 3) := by decide +kernel
theorem d_M_next_52 : decode zy_M_next.2.1 52 = .ok (.invokevirtual 180, 3) := by decide +kernel
theorem d_M_next_55 : decode zy_M_next.2.1 55 = .ok (.istore_n 1, 1) := by decide +kernel
theorem d_M_next_56 : decode zy_M_next.2.1 56 = .ok (.iload_n 1, 1) := by decide +kernel
theorem d_M_next_57 : decode zy_M_next.2.1 57 = .ok (.ifCond .ge (9), 3) := by decide +kernel
theorem d_M_next_60 : decode zy_M_next.2.1 60 = .ok (.aload_n 0, 1) := by decide +kernel
theorem d_M_next_61 : decode zy_M_next.2.1 61 = .ok (.iconst 0, 1) := by decide +kernel
theorem d_M_next_62 : decode zy_M_next.2.1 62 = .ok (.putfield 183, 3) := by decide +kernel
theorem d_M_next_65 : decode zy_M_next.2.1 65 = .ok (.return_, 1) := by decide +kernel
theorem d_M_next_66 : decode zy_M_next.2.1 66 = .ok (.iload_n 1, 1) := by decide +kernel
theorem d_M_next_67 : decode zy_M_next.2.1 67 = .ok (.invokestatic 186, 3) := by decide +kernel
theorem d_M_next_70 : decode zy_M_next.2.1 70 = .ok (.ifCond .eq (77), 3) := by decide +kernel
theorem d_M_next_73 : decode zy_M_next.2.1 73 = .ok (.aload_n 0, 1) := by decide +kernel
theorem d_M_next_74 : decode zy_M_next.2.1 74 = .ok (.aload_n 0, 1) := by decide +kernel
theorem d_M_next_75 : decode zy_M_next.2.1 75 = .ok (.getfield 169, 3) := by decide +kernel
theorem d_M_next_78 : decode zy_M_next.2.1 78 = .ok (.invokevirtual 180, 3) := by decide +kernel
theorem d_M_next_81 : decode zy_M_next.2.1 81 = .ok (.invokestatic 186, 3) := by decide +kernel
theorem d_M_next_84 : decode zy_M_next.2.1 84 = .ok (.ifCond .eq (16), 3) := by decide +kernel
theorem d_M_next_87 : decode zy_M_next.2.1 87 = .ok (.aload_n 0, 1) := by decide +kernel
theorem d_M_next_88 : decode zy_M_next.2.1 88 = .ok (.dup, 1) := by decide +kernel
theorem d_M_next_89 : decode zy_M_next.2.1 89 = .ok (.getfield 169, 3) := by decide +kernel
theorem d_M_next_92 : decode zy_M_next.2.1 92 = .ok (.iconst 1, 1) := by decide +kernel
theorem d_M_next_93 : decode zy_M_next.2.1 93 = .ok (.iadd, 1) := by decide +kernel
theorem d_M_next_94 : decode zy_M_next.2.1 94 = .ok (.putfield 169, 3) := by decide +kernel
theorem d_M_next_97 : decode zy_M_next.2.1 97 = .ok (.goto (-24), 3) := by decide +kernel
theorem d_M_next_100 : decode zy_M_next.2.1 100 = .ok (.aload_n 0, 1) := by decide +kernel
theorem d_M_next_101 : decode zy_M_next.2.1 101 = .ok (.invokevirtual 189, 3) := by decide +kernel
theorem d_M_next_104 : decode zy_M_next.2.1 104 = .ok (.istore_n 2, 1) := by decide +kernel
theorem d_M_next_105 : decode zy_M_next.2.1 105 = .ok (.aload_n 0, 1) := by decide +kernel
theorem d_M_next_106 : decode zy_M_next.2.1 106 = .ok (.iload_n 2, 1) := by decide +kernel
theorem d_M_next_107 : decode zy_M_next.2.1 107 = .ok (.ifCond .ge (7), 3) := by decide +kernel
theorem d_M_next_110 : decode zy_M_next.2.1 110 = .ok (.iconst 5, 1) := by decide +kernel
theorem d_M_next_111 : decode zy_M_next.2.1 111 = .ok (.goto (14), 3) := by decide +kernel
theorem d_M_next_114 : decode zy_M_next.2.1 114 = .ok (.iload_n 2, 1) := by decide +kernel
theorem d_M_next_115 : decode zy_M_next.2.1 115 = .ok (.bipush 6, 2) := by decide +kernel
theorem d_M_next_117 : decode zy_M_next.2.1 117 = .ok (.if_icmp .ge (7), 3) := by decide +kernel
theorem d_M_next_120 : decode zy_M_next.2.1 120 = .ok (.iconst 2, 1) := by decide +kernel
theorem d_M_next_121 : decode zy_M_next.2.1 121 = .ok (.goto (4), 3) := by decide +kernel
theorem d_M_next_124 : decode zy_M_next.2.1 124 = .ok (.iconst 3, 1) := by decide +kernel
theorem d_M_next_125 : decode zy_M_next.2.1 125 = .ok (.putfield 183, 3) := by decide +kernel
theorem d_M_next_128 : decode zy_M_next.2.1 128 = .ok (.aload_n 0, 1) := by decide +kernel
theorem d_M_next_129 : decode zy_M_next.2.1 129 = .ok (.iload_n 2, 1) := by decide +kernel
theorem d_M_next_130 : decode zy_M_next.2.1 130 = .ok (.bipush 6, 2) := by decide +kernel
theorem d_M_next_132 : decode zy_M_next.2.1 132 = .ok (.if_icmp .ge (7), 3) := by decide +kernel
theorem d_M_next_135 : decode zy_M_next.2.1 135 = .ok (.iload_n 2, 1) := by decide +kernel
theorem d_M_next_136 : decode zy_M_next.2.1 136 = .ok (.goto (7), 3) := by decide +kernel
theorem d_M_next_139 : decode zy_M_next.2.1 139 = .ok (.iload_n 2, 1) := by decide +kernel
theorem d_M_next_140 : decode zy_M_next.2.1 140 = .ok (.bipush 6, 2) := by decide +kernel
theorem d_M_next_142 : decode zy_M_next.2.1 142 = .ok (.isub, 1) := by decide +kernel
theorem d_M_next_143 : decode zy_M_next.2.1 143 = .ok (.putfield 193, 3) := by decide +kernel
theorem d_M_next_146 : decode zy_M_next.2.1 146 = .ok (.return_, 1) := by decide +kernel
theorem d_M_next_147 : decode zy_M_next.2.1 147 = .ok (.iload_n 1, 1) := by decide +kernel
theorem d_M_next_148 : decode zy_M_next.2.1 148 = .ok (.invokestatic 196, 3) := by decide +kernel
theorem d_M_next_151 : decode zy_M_next.2.1 151 = .ok (.ifCond .eq (101), 3) := by decide +kernel
theorem d_M_next_154 : decode zy_M_next.2.1 154 = .ok (.aload_n 0, 1) := by decide +kernel
theorem d_M_next_155 : decode zy_M_next.2.1 155 = .ok (.iconst 0, 1) := by decide +kernel
theorem d_M_next_156 : decode zy_M_next.2.1 156 = .ok (.putfield 193, 3) := by decide +kernel
theorem d_M_next_159 : decode zy_M_next.2.1 159 = .ok (.aload_n 0, 1) := by decide +kernel
theorem d_M_next_160 : decode zy_M_next.2.1 160 = .ok (.aload_n 0, 1) := by decide +kernel
theorem d_M_next_161 : decode zy_M_next.2.1 161 = .ok (.getfield 169, 3) := by decide +kernel
theorem d_M_next_164 : decode zy_M_next.2.1 164 = .ok (.invokevirtual 180, 3) := by decide +kernel
theorem d_M_next_167 : decode zy_M_next.2.1 167 = .ok (.invokestatic 196, 3) := by decide +kernel
theorem d_M_next_170 : decode zy_M_next.2.1 170 = .ok (.ifCond .eq (59), 3) := by decide +kernel
theorem d_M_next_173 : decode zy_M_next.2.1 173 = .ok (.aload_n 0, 1) := by decide +kernel
theorem d_M_next_174 : decode zy_M_next.2.1 174 = .ok (.aload_n 0, 1) := by decide +kernel
theorem d_M_next_175 : decode zy_M_next.2.1 175 = .ok (.getfield 169, 3) := by decide +kernel
theorem d_M_next_178 : decode zy_M_next.2.1 178 = .ok (.aload_n 0, 1) := by decide +kernel
theorem d_M_next_179 : decode zy_M_next.2.1 179 = .ok (.getfield 166, 3) := by decide +kernel
theorem d_M_next_182 : decode zy_M_next.2.1 182 = .ok (.isub, 1) := by decide +kernel
theorem d_M_next_183 : decode zy_M_next.2.1 183 = .ok (.iconst 4, 1) := by decide +kernel
theorem d_M_next_184 : decode zy_M_next.2.1 184 = .ok (.if_icmp .ge (25), 3) := by decide +kernel
theorem d_M_next_187 : decode zy_M_next.2.1 187 = .ok (.bipush 10, 2) := by decide +kernel
theorem d_M_next_189 : decode zy_M_next.2.1 189 = .ok (.aload_n 0, 1) := by decide +kernel
theorem d_M_next_190 : decode zy_M_next.2.1 190 = .ok (.getfield 193, 3) := by decide +kernel
theorem d_M_next_193 : decode zy_M_next.2.1 193 = .ok (.imul, 1) := by decide +kernel
theorem d_M_next_194 : decode zy_M_next.2.1 194 = .ok (.aload_n 0, 1) := by decide +kernel
theorem d_M_next_195 : decode zy_M_next.2.1 195 = .ok (.aload_n 0, 1) := by decide +kernel
theorem d_M_next_196 : decode zy_M_next.2.1 196 = .ok (.getfield 169, 3) := by decide +kernel
theorem d_M_next_199 : decode zy_M_next.2.1 199 = .ok (.invokevirtual 180, 3) := by decide +kernel
theorem d_M_next_202 : decode zy_M_next.2.1 202 = .ok (.iadd, 1) := by decide +kernel
theorem d_M_next_203 : decode zy_M_next.2.1 203 = .ok (.bipush 48, 2) := by decide +kernel
theorem d_M_next_205 : decode zy_M_next.2.1 205 = .ok (.isub, 1) := by decide +kernel
theorem d_M_next_206 : decode zy_M_next.2.1 206 = .ok (.goto (7), 3) := by decide +kernel
theorem d_M_next_209 : decode zy_M_next.2.1 209 = .ok (.aload_n 0, 1) := by decide +kernel
theorem d_M_next_210 : decode zy_M_next.2.1 210 = .ok (.getfield 193, 3) := by decide +kernel
theorem d_M_next_213 : decode zy_M_next.2.1 213 = .ok (.putfield 193, 3) := by decide +kernel
theorem d_M_next_216 : decode zy_M_next.2.1 216 = .ok (.aload_n 0, 1) := by decide +kernel
theorem d_M_next_217 : decode zy_M_next.2.1 217 = .ok (.dup, 1) := by decide +kernel
theorem d_M_next_218 : decode zy_M_next.2.1 218 = .ok (.getfield 169, 3) := by decide +kernel
theorem d_M_next_221 : decode zy_M_next.2.1 221 = .ok (.iconst 1, 1) := by decide +kernel
theorem d_M_next_222 : decode zy_M_next.2.1 222 = .ok (.iadd, 1) := by decide +kernel
theorem d_M_next_223 : decode zy_M_next.2.1 223 = .ok (.putfield 169, 3) := by decide +kernel
theorem d_M_next_226 : decode zy_M_next.2.1 226 = .ok (.goto (-67), 3) := by decide +kernel
theorem d_M_next_229 : decode zy_M_next.2.1 229 = .ok (.aload_n 0, 1) := by decide +kernel
theorem d_M_next_230 : decode zy_M_next.2.1 230 = .ok (.aload_n 0, 1) := by decide +kernel
theorem d_M_next_231 : decode zy_M_next.2.1 231 = .ok (.getfield 169, 3) := by decide +kernel
theorem d_M_next_234 : decode zy_M_next.2.1 234 = .ok (.aload_n 0, 1) := by decide +kernel
theorem d_M_next_235 : decode zy_M_next.2.1 235 = .ok (.getfield 166, 3) := by decide +kernel
theorem d_M_next_238 : decode zy_M_next.2.1 238 = .ok (.isub, 1) := by decide +kernel
theorem d_M_next_239 : decode zy_M_next.2.1 239 = .ok (.iconst 4, 1) := by decide +kernel
theorem d_M_next_240 : decode zy_M_next.2.1 240 = .ok (.if_icmp .le (7), 3) := by decide +kernel
theorem d_M_next_243 : decode zy_M_next.2.1 243 = .ok (.iconst 5, 1) := by decide +kernel
theorem d_M_next_244 : decode zy_M_next.2.1 244 = .ok (.goto (4), 3) := by decide +kernel
theorem d_M_next_247 : decode zy_M_next.2.1 247 = .ok (.iconst 1, 1) := by decide +kernel
theorem d_M_next_248 : decode zy_M_next.2.1 248 = .ok (.putfield 183, 3) := by decide +kernel
theorem d_M_next_251 : decode zy_M_next.2.1 251 = .ok (.return_, 1) := by decide +kernel
theorem d_M_next_252 : decode zy_M_next.2.1 252 = .ok (.aload_n 0, 1) := by decide +kernel
theorem d_M_next_253 : decode zy_M_next.2.1 253 = .ok (.iload_n 1, 1) := by decide +kernel
theorem d_M_next_254 : decode zy_M_next.2.1 254 = .ok (.invokestatic 199, 3) := by decide +kernel
theorem d_M_next_257 : decode zy_M_next.2.1 257 = .ok (.ifCond .eq (7), 3) := by decide +kernel
theorem d_M_next_260 : decode zy_M_next.2.1 260 = .ok (.iconst 4, 1) := by decide +kernel
theorem d_M_next_261 : decode zy_M_next.2.1 261 = .ok (.goto (4), 3) := by decide +kernel
theorem d_M_next_264 : decode zy_M_next.2.1 264 = .ok (.iconst 5, 1) := by decide +kernel
theorem d_M_next_265 : decode zy_M_next.2.1 265 = .ok (.putfield 183, 3) := by decide +kernel
theorem d_M_next_268 : decode zy_M_next.2.1 268 = .ok (.aload_n 0, 1) := by decide +kernel
theorem d_M_next_269 : decode zy_M_next.2.1 269 = .ok (.iload_n 1, 1) := by decide +kernel
theorem d_M_next_270 : decode zy_M_next.2.1 270 = .ok (.putfield 193, 3) := by decide +kernel
theorem d_M_next_273 : decode zy_M_next.2.1 273 = .ok (.aload_n 0, 1) := by decide +kernel
theorem d_M_next_274 : decode zy_M_next.2.1 274 = .ok (.dup, 1) := by decide +kernel
theorem d_M_next_275 : decode zy_M_next.2.1 275 = .ok (.getfield 169, 3) := by decide +kernel
theorem d_M_next_278 : decode zy_M_next.2.1 278 = .ok (.iconst 1, 1) := by decide +kernel
theorem d_M_next_279 : decode zy_M_next.2.1 279 = .ok (.iadd, 1) := by decide +kernel
theorem d_M_next_280 : decode zy_M_next.2.1 280 = .ok (.putfield 169, 3) := by decide +kernel
theorem d_M_next_283 : decode zy_M_next.2.1 283 = .ok (.return_, 1) := by decide +kernel
theorem d_M_payOf_0 : decode zy_M_payOf.2.1 0 = .ok (.aload_n 0, 1) := by decide +kernel
theorem d_M_payOf_1 : decode zy_M_payOf.2.1 1 = .ok (.iconst 2, 1) := by decide +kernel
theorem d_M_payOf_2 : decode zy_M_payOf.2.1 2 = .ok (.iload_n 1, 1) := by decide +kernel
theorem d_M_payOf_3 : decode zy_M_payOf.2.1 3 = .ok (.aload_n 0, 1) := by decide +kernel
theorem d_M_payOf_4 : decode zy_M_payOf.2.1 4 = .ok (.getfield 24, 3) := by decide +kernel
theorem d_M_payOf_7 : decode zy_M_payOf.2.1 7 = .ok (.iload_n 1, 1) := by decide +kernel
theorem d_M_payOf_8 : decode zy_M_payOf.2.1 8 = .ok (.iaload, 1) := by decide +kernel
theorem d_M_payOf_9 : decode zy_M_payOf.2.1 9 = .ok (.invokevirtual 260, 3) := by decide +kernel
theorem d_M_payOf_12 : decode zy_M_payOf.2.1 12 = .ok (.iconst 0, 1) := by decide +kernel
theorem d_M_payOf_13 : decode zy_M_payOf.2.1 13 = .ok (.sipush 999, 3) := by decide +kernel
theorem d_M_payOf_16 : decode zy_M_payOf.2.1 16 = .ok (.invokestatic 263, 3) := by decide +kernel
theorem d_M_payOf_19 : decode zy_M_payOf.2.1 19 = .ok (.ireturn, 1) := by decide +kernel
theorem d_M_sheet_0 : decode zy_M_sheet.2.1 0 = .ok (.iload_n 1, 1) := by decide +kernel
theorem d_M_sheet_1 : decode zy_M_sheet.2.1 1 = .ok (.invokestatic 339, 3) := by decide +kernel
theorem d_M_sheet_4 : decode zy_M_sheet.2.1 4 = .ok (.ifCond .eq (27), 3) := by decide +kernel
theorem d_M_sheet_7 : decode zy_M_sheet.2.1 7 = .ok (.iload_n 2, 1) := by decide +kernel
theorem d_M_sheet_8 : decode zy_M_sheet.2.1 8 = .ok (.i2l, 1) := by decide +kernel
theorem d_M_sheet_9 : decode zy_M_sheet.2.1 9 = .ok (.ldc2_w 356, 3) := by decide +kernel
theorem d_M_sheet_12 : decode zy_M_sheet.2.1 12 = .ok (.ldc2_w 323, 3) := by decide +kernel
theorem d_M_sheet_15 : decode zy_M_sheet.2.1 15 = .ok (.invokestatic 109, 3) := by decide +kernel
theorem d_M_sheet_18 : decode zy_M_sheet.2.1 18 = .ok (.ifCond .eq (13), 3) := by decide +kernel
theorem d_M_sheet_21 : decode zy_M_sheet.2.1 21 = .ok (.iload_n 2, 1) := by decide +kernel
theorem d_M_sheet_22 : decode zy_M_sheet.2.1 22 = .ok (.ifCond .lt (12), 3) := by decide +kernel
theorem d_M_sheet_25 : decode zy_M_sheet.2.1 25 = .ok (.iload_n 3, 1) := by decide +kernel
theorem d_M_sheet_26 : decode zy_M_sheet.2.1 26 = .ok (.bipush 40, 2) := by decide +kernel
theorem d_M_sheet_28 : decode zy_M_sheet.2.1 28 = .ok (.if_icmp .le (6), 3) := by decide +kernel
theorem d_M_sheet_31 : decode zy_M_sheet.2.1 31 = .ok (.bipush (-2), 2) := by decide +kernel
theorem d_M_sheet_33 : decode zy_M_sheet.2.1 33 = .ok (.ireturn, 1) := by decide +kernel
theorem d_M_sheet_34 : decode zy_M_sheet.2.1 34 = .ok (.iload_n 2, 1) := by decide +kernel
theorem d_M_sheet_35 : decode zy_M_sheet.2.1 35 = .ok (.ifCond .lt (10), 3) := by decide +kernel
theorem d_M_sheet_38 : decode zy_M_sheet.2.1 38 = .ok (.iload_n 3, 1) := by decide +kernel
theorem d_M_sheet_39 : decode zy_M_sheet.2.1 39 = .ok (.ifCond .ge (6), 3) := by decide +kernel
theorem d_M_sheet_42 : decode zy_M_sheet.2.1 42 = .ok (.bipush (-14), 2) := by decide +kernel
theorem d_M_sheet_44 : decode zy_M_sheet.2.1 44 = .ok (.ireturn, 1) := by decide +kernel
theorem d_M_sheet_45 : decode zy_M_sheet.2.1 45 = .ok (.aload_n 0, 1) := by decide +kernel
theorem d_M_sheet_46 : decode zy_M_sheet.2.1 46 = .ok (.getfield 91, 3) := by decide +kernel
theorem d_M_sheet_49 : decode zy_M_sheet.2.1 49 = .ok (.iload_n 1, 1) := by decide +kernel
theorem d_M_sheet_50 : decode zy_M_sheet.2.1 50 = .ok (.iload_n 2, 1) := by decide +kernel
theorem d_M_sheet_51 : decode zy_M_sheet.2.1 51 = .ok (.iastore, 1) := by decide +kernel
theorem d_M_sheet_52 : decode zy_M_sheet.2.1 52 = .ok (.aload_n 0, 1) := by decide +kernel
theorem d_M_sheet_53 : decode zy_M_sheet.2.1 53 = .ok (.getfield 94, 3) := by decide +kernel
theorem d_M_sheet_56 : decode zy_M_sheet.2.1 56 = .ok (.iload_n 1, 1) := by decide +kernel
theorem d_M_sheet_57 : decode zy_M_sheet.2.1 57 = .ok (.iload_n 2, 1) := by decide +kernel
theorem d_M_sheet_58 : decode zy_M_sheet.2.1 58 = .ok (.ifCond .ge (7), 3) := by decide +kernel
theorem d_M_sheet_61 : decode zy_M_sheet.2.1 61 = .ok (.iconst 0, 1) := by decide +kernel
theorem d_M_sheet_62 : decode zy_M_sheet.2.1 62 = .ok (.goto (4), 3) := by decide +kernel
theorem d_M_sheet_65 : decode zy_M_sheet.2.1 65 = .ok (.iload_n 3, 1) := by decide +kernel
theorem d_M_sheet_66 : decode zy_M_sheet.2.1 66 = .ok (.iastore, 1) := by decide +kernel
theorem d_M_sheet_67 : decode zy_M_sheet.2.1 67 = .ok (.bipush 40, 2) := by decide +kernel
theorem d_M_sheet_69 : decode zy_M_sheet.2.1 69 = .ok (.iload_n 1, 1) := by decide +kernel
theorem d_M_sheet_70 : decode zy_M_sheet.2.1 70 = .ok (.imul, 1) := by decide +kernel
theorem d_M_sheet_71 : decode zy_M_sheet.2.1 71 = .ok (.istore 4, 2) := by decide +kernel
theorem d_M_sheet_73 : decode zy_M_sheet.2.1 73 = .ok (.iload 4, 2) := by decide +kernel
theorem d_M_sheet_75 : decode zy_M_sheet.2.1 75 = .ok (.bipush 40, 2) := by decide +kernel
theorem d_M_sheet_77 : decode zy_M_sheet.2.1 77 = .ok (.iload_n 1, 1) := by decide +kernel
theorem d_M_sheet_78 : decode zy_M_sheet.2.1 78 = .ok (.imul, 1) := by decide +kernel
theorem d_M_sheet_79 : decode zy_M_sheet.2.1 79 = .ok (.bipush 40, 2) := by decide +kernel
theorem d_M_sheet_81 : decode zy_M_sheet.2.1 81 = .ok (.iadd, 1) := by decide +kernel
theorem d_M_sheet_82 : decode zy_M_sheet.2.1 82 = .ok (.if_icmp .ge (17), 3) := by decide +kernel
theorem d_M_sheet_85 : decode zy_M_sheet.2.1 85 = .ok (.aload_n 0, 1) := by decide +kernel
theorem d_M_sheet_86 : decode zy_M_sheet.2.1 86 = .ok (.getfield 97, 3) := by decide +kernel
theorem d_M_sheet_89 : decode zy_M_sheet.2.1 89 = .ok (.iload 4, 2) := by decide +kernel
theorem d_M_sheet_91 : decode zy_M_sheet.2.1 91 = .ok (.iconst 0, 1) := by decide +kernel
theorem d_M_sheet_92 : decode zy_M_sheet.2.1 92 = .ok (.iastore, 1) := by decide +kernel
theorem d_M_sheet_93 : decode zy_M_sheet.2.1 93 = .ok (.iinc 4 1, 3) := by decide +kernel
theorem d_M_sheet_96 : decode zy_M_sheet.2.1 96 = .ok (.goto (-23), 3) := by decide +kernel
theorem d_M_sheet_99 : decode zy_M_sheet.2.1 99 = .ok (.iconst 1, 1) := by decide +kernel
theorem d_M_sheet_100 : decode zy_M_sheet.2.1 100 = .ok (.ireturn, 1) := by decide +kernel
theorem d_M_taken_0 : decode zy_M_taken.2.1 0 = .ok (.iload_n 2, 1) := by decide +kernel
theorem d_M_taken_1 : decode zy_M_taken.2.1 1 = .ok (.i2l, 1) := by decide +kernel
theorem d_M_taken_2 : decode zy_M_taken.2.1 2 = .ok (.lconst 0, 1) := by decide +kernel
theorem d_M_taken_3 : decode zy_M_taken.2.1 3 = .ok (.ldc2_w 118, 3) := by decide +kernel
theorem d_M_taken_6 : decode zy_M_taken.2.1 6 = .ok (.invokestatic 109, 3) := by decide +kernel
theorem d_M_taken_9 : decode zy_M_taken.2.1 9 = .ok (.ifCond .ne (6), 3) := by decide +kernel
theorem d_M_taken_12 : decode zy_M_taken.2.1 12 = .ok (.bipush (-2), 2) := by decide +kernel
theorem d_M_taken_14 : decode zy_M_taken.2.1 14 = .ok (.ireturn, 1) := by decide +kernel
theorem d_M_taken_15 : decode zy_M_taken.2.1 15 = .ok (.aload_n 0, 1) := by decide +kernel
theorem d_M_taken_16 : decode zy_M_taken.2.1 16 = .ok (.iload_n 1, 1) := by decide +kernel
theorem d_M_taken_17 : decode zy_M_taken.2.1 17 = .ok (.invokevirtual 133, 3) := by decide +kernel
theorem d_M_taken_20 : decode zy_M_taken.2.1 20 = .ok (.ifCond .ne (6), 3) := by decide +kernel
theorem d_M_taken_23 : decode zy_M_taken.2.1 23 = .ok (.bipush (-11), 2) := by decide +kernel
theorem d_M_taken_25 : decode zy_M_taken.2.1 25 = .ok (.ireturn, 1) := by decide +kernel
theorem d_M_taken_26 : decode zy_M_taken.2.1 26 = .ok (.aload_n 0, 1) := by decide +kernel
theorem d_M_taken_27 : decode zy_M_taken.2.1 27 = .ok (.getfield 21, 3) := by decide +kernel
theorem d_M_taken_30 : decode zy_M_taken.2.1 30 = .ok (.iload_n 1, 1) := by decide +kernel
theorem d_M_taken_31 : decode zy_M_taken.2.1 31 = .ok (.iaload, 1) := by decide +kernel
theorem d_M_taken_32 : decode zy_M_taken.2.1 32 = .ok (.istore_n 3, 1) := by decide +kernel
theorem d_M_taken_33 : decode zy_M_taken.2.1 33 = .ok (.iload_n 3, 1) := by decide +kernel
theorem d_M_taken_34 : decode zy_M_taken.2.1 34 = .ok (.iload_n 2, 1) := by decide +kernel
theorem d_M_taken_35 : decode zy_M_taken.2.1 35 = .ok (.if_icmp .eq (15), 3) := by decide +kernel
theorem d_M_taken_38 : decode zy_M_taken.2.1 38 = .ok (.iload_n 3, 1) := by decide +kernel
theorem d_M_taken_39 : decode zy_M_taken.2.1 39 = .ok (.ifCond .le (11), 3) := by decide +kernel
theorem d_M_taken_42 : decode zy_M_taken.2.1 42 = .ok (.iload_n 3, 1) := by decide +kernel
theorem d_M_taken_43 : decode zy_M_taken.2.1 43 = .ok (.invokestatic 361, 3) := by decide +kernel
theorem d_M_taken_46 : decode zy_M_taken.2.1 46 = .ok (.istore_n 3, 1) := by decide +kernel
theorem d_M_taken_47 : decode zy_M_taken.2.1 47 = .ok (.goto (-14), 3) := by decide +kernel
theorem d_M_taken_50 : decode zy_M_taken.2.1 50 = .ok (.iload_n 3, 1) := by decide +kernel
theorem d_M_taken_51 : decode zy_M_taken.2.1 51 = .ok (.iload_n 2, 1) := by decide +kernel
theorem d_M_taken_52 : decode zy_M_taken.2.1 52 = .ok (.if_icmp .ne (12), 3) := by decide +kernel
theorem d_M_taken_55 : decode zy_M_taken.2.1 55 = .ok (.aload_n 0, 1) := by decide +kernel
theorem d_M_taken_56 : decode zy_M_taken.2.1 56 = .ok (.getfield 27, 3) := by decide +kernel
theorem d_M_taken_59 : decode zy_M_taken.2.1 59 = .ok (.iload_n 1, 1) := by decide +kernel
theorem d_M_taken_60 : decode zy_M_taken.2.1 60 = .ok (.iaload, 1) := by decide +kernel
theorem d_M_taken_61 : decode zy_M_taken.2.1 61 = .ok (.goto (5), 3) := by decide +kernel
theorem d_M_taken_64 : decode zy_M_taken.2.1 64 = .ok (.bipush (-13), 2) := by decide +kernel
theorem d_M_taken_66 : decode zy_M_taken.2.1 66 = .ok (.ireturn, 1) := by decide +kernel
theorem d_M_teach_0 : decode zy_M_teach.2.1 0 = .ok (.aload_n 0, 1) := by decide +kernel
theorem d_M_teach_1 : decode zy_M_teach.2.1 1 = .ok (.iload_n 1, 1) := by decide +kernel
theorem d_M_teach_2 : decode zy_M_teach.2.1 2 = .ok (.invokevirtual 133, 3) := by decide +kernel
theorem d_M_teach_5 : decode zy_M_teach.2.1 5 = .ok (.ifCond .eq (11), 3) := by decide +kernel
theorem d_M_teach_8 : decode zy_M_teach.2.1 8 = .ok (.aload_n 0, 1) := by decide +kernel
theorem d_M_teach_9 : decode zy_M_teach.2.1 9 = .ok (.iload_n 2, 1) := by decide +kernel
theorem d_M_teach_10 : decode zy_M_teach.2.1 10 = .ok (.invokevirtual 120, 3) := by decide +kernel
theorem d_M_teach_13 : decode zy_M_teach.2.1 13 = .ok (.ifCond .ne (6), 3) := by decide +kernel
theorem d_M_teach_16 : decode zy_M_teach.2.1 16 = .ok (.bipush (-2), 2) := by decide +kernel
theorem d_M_teach_18 : decode zy_M_teach.2.1 18 = .ok (.ireturn, 1) := by decide +kernel
theorem d_M_teach_19 : decode zy_M_teach.2.1 19 = .ok (.aload_n 0, 1) := by decide +kernel
theorem d_M_teach_20 : decode zy_M_teach.2.1 20 = .ok (.getfield 42, 3) := by decide +kernel
theorem d_M_teach_23 : decode zy_M_teach.2.1 23 = .ok (.bipush 6, 2) := by decide +kernel
theorem d_M_teach_25 : decode zy_M_teach.2.1 25 = .ok (.iload_n 1, 1) := by decide +kernel
theorem d_M_teach_26 : decode zy_M_teach.2.1 26 = .ok (.imul, 1) := by decide +kernel
theorem d_M_teach_27 : decode zy_M_teach.2.1 27 = .ok (.iload_n 2, 1) := by decide +kernel
theorem d_M_teach_28 : decode zy_M_teach.2.1 28 = .ok (.iadd, 1) := by decide +kernel
theorem d_M_teach_29 : decode zy_M_teach.2.1 29 = .ok (.baload, 1) := by decide +kernel
theorem d_M_teach_30 : decode zy_M_teach.2.1 30 = .ok (.ifCond .ne (13), 3) := by decide +kernel
theorem d_M_teach_33 : decode zy_M_teach.2.1 33 = .ok (.aload_n 0, 1) := by decide +kernel
theorem d_M_teach_34 : decode zy_M_teach.2.1 34 = .ok (.getfield 24, 3) := by decide +kernel
theorem d_M_teach_37 : decode zy_M_teach.2.1 37 = .ok (.iload_n 1, 1) := by decide +kernel
theorem d_M_teach_38 : decode zy_M_teach.2.1 38 = .ok (.iaload, 1) := by decide +kernel
theorem d_M_teach_39 : decode zy_M_teach.2.1 39 = .ok (.iload_n 2, 1) := by decide +kernel
theorem d_M_teach_40 : decode zy_M_teach.2.1 40 = .ok (.if_icmp .ne (6), 3) := by decide +kernel
theorem d_M_teach_43 : decode zy_M_teach.2.1 43 = .ok (.bipush (-3), 2) := by decide +kernel
theorem d_M_teach_45 : decode zy_M_teach.2.1 45 = .ok (.ireturn, 1) := by decide +kernel
theorem d_M_teach_46 : decode zy_M_teach.2.1 46 = .ok (.aload_n 0, 1) := by decide +kernel
theorem d_M_teach_47 : decode zy_M_teach.2.1 47 = .ok (.getfield 39, 3) := by decide +kernel
theorem d_M_teach_50 : decode zy_M_teach.2.1 50 = .ok (.bipush 6, 2) := by decide +kernel
theorem d_M_teach_52 : decode zy_M_teach.2.1 52 = .ok (.iload_n 1, 1) := by decide +kernel
theorem d_M_teach_53 : decode zy_M_teach.2.1 53 = .ok (.imul, 1) := by decide +kernel
theorem d_M_teach_54 : decode zy_M_teach.2.1 54 = .ok (.iload_n 2, 1) := by decide +kernel
theorem d_M_teach_55 : decode zy_M_teach.2.1 55 = .ok (.iadd, 1) := by decide +kernel
theorem d_M_teach_56 : decode zy_M_teach.2.1 56 = .ok (.iconst 1, 1) := by decide +kernel
theorem d_M_teach_57 : decode zy_M_teach.2.1 57 = .ok (.bastore, 1) := by decide +kernel
theorem d_M_teach_58 : decode zy_M_teach.2.1 58 = .ok (.aload_n 0, 1) := by decide +kernel
theorem d_M_teach_59 : decode zy_M_teach.2.1 59 = .ok (.getfield 36, 3) := by decide +kernel
theorem d_M_teach_62 : decode zy_M_teach.2.1 62 = .ok (.bipush 6, 2) := by decide +kernel
theorem d_M_teach_64 : decode zy_M_teach.2.1 64 = .ok (.iload_n 1, 1) := by decide +kernel
theorem d_M_teach_65 : decode zy_M_teach.2.1 65 = .ok (.imul, 1) := by decide +kernel
theorem d_M_teach_66 : decode zy_M_teach.2.1 66 = .ok (.iload_n 2, 1) := by decide +kernel
theorem d_M_teach_67 : decode zy_M_teach.2.1 67 = .ok (.iadd, 1) := by decide +kernel
theorem d_M_teach_68 : decode zy_M_teach.2.1 68 = .ok (.aload_n 0, 1) := by decide +kernel
theorem d_M_teach_69 : decode zy_M_teach.2.1 69 = .ok (.getfield 130, 3) := by decide +kernel
theorem d_M_teach_72 : decode zy_M_teach.2.1 72 = .ok (.iastore, 1) := by decide +kernel
theorem d_M_teach_73 : decode zy_M_teach.2.1 73 = .ok (.aload_n 0, 1) := by decide +kernel
theorem d_M_teach_74 : decode zy_M_teach.2.1 74 = .ok (.iload_n 1, 1) := by decide +kernel
theorem d_M_teach_75 : decode zy_M_teach.2.1 75 = .ok (.invokevirtual 136, 3) := by decide +kernel
theorem d_M_teach_78 : decode zy_M_teach.2.1 78 = .ok (.ireturn, 1) := by decide +kernel
theorem d_M_wellOf_0 : decode zy_M_wellOf.2.1 0 = .ok (.aload_n 0, 1) := by decide +kernel
theorem d_M_wellOf_1 : decode zy_M_wellOf.2.1 1 = .ok (.iconst 0, 1) := by decide +kernel
theorem d_M_wellOf_2 : decode zy_M_wellOf.2.1 2 = .ok (.iload_n 1, 1) := by decide +kernel
theorem d_M_wellOf_3 : decode zy_M_wellOf.2.1 3 = .ok (.iload_n 2, 1) := by decide +kernel
theorem d_M_wellOf_4 : decode zy_M_wellOf.2.1 4 = .ok (.invokevirtual 260, 3) := by decide +kernel
theorem d_M_wellOf_7 : decode zy_M_wellOf.2.1 7 = .ok (.iconst 0, 1) := by decide +kernel
theorem d_M_wellOf_8 : decode zy_M_wellOf.2.1 8 = .ok (.bipush 99, 2) := by decide +kernel
theorem d_M_wellOf_10 : decode zy_M_wellOf.2.1 10 = .ok (.invokestatic 263, 3) := by decide +kernel
theorem d_M_wellOf_13 : decode zy_M_wellOf.2.1 13 = .ok (.ireturn, 1) := by decide +kernel
theorem d_X_costOf_0 : decode zy_X_costOf.2.1 0 = .ok (.aload_n 0, 1) := by decide +kernel
theorem d_X_costOf_1 : decode zy_X_costOf.2.1 1 = .ok (.iconst 1, 1) := by decide +kernel
theorem d_X_costOf_2 : decode zy_X_costOf.2.1 2 = .ok (.aload_n 1, 1) := by decide +kernel
theorem d_X_costOf_3 : decode zy_X_costOf.2.1 3 = .ok (.iload_n 2, 1) := by decide +kernel
theorem d_X_costOf_4 : decode zy_X_costOf.2.1 4 = .ok (.invokevirtual 342, 3) := by decide +kernel
theorem d_X_costOf_7 : decode zy_X_costOf.2.1 7 = .ok (.iconst 1, 1) := by decide +kernel
theorem d_X_costOf_8 : decode zy_X_costOf.2.1 8 = .ok (.bipush 99, 2) := by decide +kernel
theorem d_X_costOf_10 : decode zy_X_costOf.2.1 10 = .ok (.invokestatic 345, 3) := by decide +kernel
theorem d_X_costOf_13 : decode zy_X_costOf.2.1 13 = .ok (.ireturn, 1) := by decide +kernel
theorem d_X_first_0 : decode zy_X_first.2.1 0 = .ok (.iconst (-1), 1) := by decide +kernel
theorem d_X_first_1 : decode zy_X_first.2.1 1 = .ok (.istore_n 1, 1) := by decide +kernel
theorem d_X_first_2 : decode zy_X_first.2.1 2 = .ok (.iconst 0, 1) := by decide +kernel
theorem d_X_first_3 : decode zy_X_first.2.1 3 = .ok (.istore_n 2, 1) := by decide +kernel
theorem d_X_first_4 : decode zy_X_first.2.1 4 = .ok (.iconst 0, 1) := by decide +kernel
theorem d_X_first_5 : decode zy_X_first.2.1 5 = .ok (.istore_n 3, 1) := by decide +kernel
theorem d_X_first_6 : decode zy_X_first.2.1 6 = .ok (.iload_n 3, 1) := by decide +kernel
theorem d_X_first_7 : decode zy_X_first.2.1 7 = .ok (.aload_n 0, 1) := by decide +kernel
theorem d_X_first_8 : decode zy_X_first.2.1 8 = .ok (.getfield 22, 3) := by decide +kernel
theorem d_X_first_11 : decode zy_X_first.2.1 11 = .ok (.if_icmp .ge (112), 3) := by decide +kernel
theorem d_X_first_14 : decode zy_X_first.2.1 14 = .ok (.aload_n 0, 1) := by decide +kernel
theorem d_X_first_15 : decode zy_X_first.2.1 15 = .ok (.getfield 18, 3) := by decide +kernel
theorem d_X_first_18 : decode zy_X_first.2.1 18 = .ok (.iload_n 3, 1) := by decide +kernel
theorem d_X_first_19 : decode zy_X_first.2.1 19 = .ok (.aaload, 1) := by decide +kernel
theorem d_X_first_20 : decode zy_X_first.2.1 20 = .ok (.astore 4, 2) := by decide +kernel
theorem d_X_first_22 : decode zy_X_first.2.1 22 = .ok (.iconst 0, 1) := by decide +kernel
theorem d_X_first_23 : decode zy_X_first.2.1 23 = .ok (.istore 5, 2) := by decide +kernel
theorem d_X_first_25 : decode zy_X_first.2.1 25 = .ok (.iload 5, 2) := by decide +kernel
theorem d_X_first_27 : decode zy_X_first.2.1 27 = .ok (.aload_n 0, 1) := by decide +kernel
theorem d_X_first_28 : decode zy_X_first.2.1 28 = .ok (.getfield 10, 3) := by decide +kernel
theorem d_X_first_31 : decode zy_X_first.2.1 31 = .ok (.getfield 254, 3) := by decide +kernel
theorem d_X_first_34 : decode zy_X_first.2.1 34 = .ok (.if_icmp .ge (83), 3) := by decide +kernel
theorem d_X_first_37 : decode zy_X_first.2.1 37 = .ok (.aload 4, 2) := by decide +kernel
theorem d_X_first_39 : decode zy_X_first.2.1 39 = .ok (.iload 5, 2) := by decide +kernel
theorem d_X_first_41 : decode zy_X_first.2.1 41 = .ok (.invokevirtual 135, 3) := by decide +kernel
theorem d_X_first_44 : decode zy_X_first.2.1 44 = .ok (.ifCond .ne (67), 3) := by decide +kernel
theorem d_X_first_47 : decode zy_X_first.2.1 47 = .ok (.aload 4, 2) := by decide +kernel
theorem d_X_first_49 : decode zy_X_first.2.1 49 = .ok (.iload 5, 2) := by decide +kernel
theorem d_X_first_51 : decode zy_X_first.2.1 51 = .ok (.aload_n 0, 1) := by decide +kernel
theorem d_X_first_52 : decode zy_X_first.2.1 52 = .ok (.getfield 10, 3) := by decide +kernel
theorem d_X_first_55 : decode zy_X_first.2.1 55 = .ok (.getfield 126, 3) := by decide +kernel
theorem d_X_first_58 : decode zy_X_first.2.1 58 = .ok (.invokevirtual 271, 3) := by decide +kernel
theorem d_X_first_61 : decode zy_X_first.2.1 61 = .ok (.ifCond .ne (6), 3) := by decide +kernel
theorem d_X_first_64 : decode zy_X_first.2.1 64 = .ok (.goto (47), 3) := by decide +kernel
theorem d_X_first_67 : decode zy_X_first.2.1 67 = .ok (.aload 4, 2) := by decide +kernel
theorem d_X_first_69 : decode zy_X_first.2.1 69 = .ok (.invokevirtual 160, 3) := by decide +kernel
theorem d_X_first_72 : decode zy_X_first.2.1 72 = .ok (.aload 4, 2) := by decide +kernel
theorem d_X_first_74 : decode zy_X_first.2.1 74 = .ok (.iload 5, 2) := by decide +kernel
theorem d_X_first_76 : decode zy_X_first.2.1 76 = .ok (.aload_n 0, 1) := by decide +kernel
theorem d_X_first_77 : decode zy_X_first.2.1 77 = .ok (.getfield 10, 3) := by decide +kernel
theorem d_X_first_80 : decode zy_X_first.2.1 80 = .ok (.getfield 126, 3) := by decide +kernel
theorem d_X_first_83 : decode zy_X_first.2.1 83 = .ok (.invokevirtual 274, 3) := by decide +kernel
theorem d_X_first_86 : decode zy_X_first.2.1 86 = .ok (.isub, 1) := by decide +kernel
theorem d_X_first_87 : decode zy_X_first.2.1 87 = .ok (.istore 6, 2) := by decide +kernel
theorem d_X_first_89 : decode zy_X_first.2.1 89 = .ok (.iload_n 1, 1) := by decide +kernel
theorem d_X_first_90 : decode zy_X_first.2.1 90 = .ok (.iconst (-1), 1) := by decide +kernel
theorem d_X_first_91 : decode zy_X_first.2.1 91 = .ok (.if_icmp .eq (9), 3) := by decide +kernel
theorem d_X_first_94 : decode zy_X_first.2.1 94 = .ok (.iload 6, 2) := by decide +kernel
theorem d_X_first_96 : decode zy_X_first.2.1 96 = .ok (.iload_n 2, 1) := by decide +kernel
theorem d_X_first_97 : decode zy_X_first.2.1 97 = .ok (.if_icmp .ge (14), 3) := by decide +kernel
theorem d_X_first_100 : decode zy_X_first.2.1 100 = .ok (.bipush 10, 2) := by decide +kernel
theorem d_X_first_102 : decode zy_X_first.2.1 102 = .ok (.iload_n 3, 1) := by decide +kernel
theorem d_X_first_103 : decode zy_X_first.2.1 103 = .ok (.imul, 1) := by decide +kernel
theorem d_X_first_104 : decode zy_X_first.2.1 104 = .ok (.iload 5, 2) := by decide +kernel
theorem d_X_first_106 : decode zy_X_first.2.1 106 = .ok (.iadd, 1) := by decide +kernel
theorem d_X_first_107 : decode zy_X_first.2.1 107 = .ok (.istore_n 1, 1) := by decide +kernel
theorem d_X_first_108 : decode zy_X_first.2.1 108 = .ok (.iload 6, 2) := by decide +kernel
theorem d_X_first_110 : decode zy_X_first.2.1 110 = .ok (.istore_n 2, 1) := by decide +kernel
theorem d_X_first_111 : decode zy_X_first.2.1 111 = .ok (.iinc 5 1, 3) := by decide +kernel
theorem d_X_first_114 : decode zy_X_first.2.1 114 = .ok (.goto (-89), 3) := by decide +kernel
theorem d_X_first_117 : decode zy_X_first.2.1 117 = .ok (.iinc 3 1, 3) := by decide +kernel
theorem d_X_first_120 : decode zy_X_first.2.1 120 = .ok (.goto (-114), 3) := by decide +kernel
theorem d_X_first_123 : decode zy_X_first.2.1 123 = .ok (.iload_n 1, 1) := by decide +kernel
theorem d_X_first_124 : decode zy_X_first.2.1 124 = .ok (.ireturn, 1) := by decide +kernel
theorem d_X_wellOf_0 : decode zy_X_wellOf.2.1 0 = .ok (.aload_n 0, 1) := by decide +kernel
theorem d_X_wellOf_1 : decode zy_X_wellOf.2.1 1 = .ok (.iconst 0, 1) := by decide +kernel
theorem d_X_wellOf_2 : decode zy_X_wellOf.2.1 2 = .ok (.aload_n 1, 1) := by decide +kernel
theorem d_X_wellOf_3 : decode zy_X_wellOf.2.1 3 = .ok (.iload_n 2, 1) := by decide +kernel
theorem d_X_wellOf_4 : decode zy_X_wellOf.2.1 4 = .ok (.invokevirtual 342, 3) := by decide +kernel
theorem d_X_wellOf_7 : decode zy_X_wellOf.2.1 7 = .ok (.iconst 0, 1) := by decide +kernel
theorem d_X_wellOf_8 : decode zy_X_wellOf.2.1 8 = .ok (.bipush 99, 2) := by decide +kernel
theorem d_X_wellOf_10 : decode zy_X_wellOf.2.1 10 = .ok (.invokestatic 345, 3) := by decide +kernel
theorem d_X_wellOf_13 : decode zy_X_wellOf.2.1 13 = .ok (.ireturn, 1) := by decide +kernel
theorem d_Person_can_0 : decode zy_Person_can.2.1 0 = .ok (.aload_n 0, 1) := by decide +kernel
theorem d_Person_can_1 : decode zy_Person_can.2.1 1 = .ok (.iload_n 1, 1) := by decide +kernel
theorem d_Person_can_2 : decode zy_Person_can.2.1 2 = .ok (.invokevirtual 60, 3) := by decide +kernel
theorem d_Person_can_5 : decode zy_Person_can.2.1 5 = .ok (.ifCond .eq (5), 3) := by decide +kernel
theorem d_Person_can_8 : decode zy_Person_can.2.1 8 = .ok (.iconst 0, 1) := by decide +kernel
theorem d_Person_can_9 : decode zy_Person_can.2.1 9 = .ok (.ireturn, 1) := by decide +kernel
theorem d_Person_can_10 : decode zy_Person_can.2.1 10 = .ok (.iload_n 1, 1) := by decide +kernel
theorem d_Person_can_11 : decode zy_Person_can.2.1 11 = .ok (.aload_n 0, 1) := by decide +kernel
theorem d_Person_can_12 : decode zy_Person_can.2.1 12 = .ok (.getfield 15, 3) := by decide +kernel
theorem d_Person_can_15 : decode zy_Person_can.2.1 15 = .ok (.if_icmp .eq (15), 3) := by decide +kernel
theorem d_Person_can_18 : decode zy_Person_can.2.1 18 = .ok (.aload_n 0, 1) := by decide +kernel
theorem d_Person_can_19 : decode zy_Person_can.2.1 19 = .ok (.iload_n 1, 1) := by decide +kernel
theorem d_Person_can_20 : decode zy_Person_can.2.1 20 = .ok (.aload_n 2, 1) := by decide +kernel
theorem d_Person_can_21 : decode zy_Person_can.2.1 21 = .ok (.getfield 63, 3) := by decide +kernel
theorem d_Person_can_24 : decode zy_Person_can.2.1 24 = .ok (.invokevirtual 68, 3) := by decide +kernel
theorem d_Person_can_27 : decode zy_Person_can.2.1 27 = .ok (.ifCond .eq (5), 3) := by decide +kernel
theorem d_Person_can_30 : decode zy_Person_can.2.1 30 = .ok (.iconst 1, 1) := by decide +kernel
theorem d_Person_can_31 : decode zy_Person_can.2.1 31 = .ok (.ireturn, 1) := by decide +kernel
theorem d_Person_can_32 : decode zy_Person_can.2.1 32 = .ok (.aload_n 0, 1) := by decide +kernel
theorem d_Person_can_33 : decode zy_Person_can.2.1 33 = .ok (.iconst 1, 1) := by decide +kernel
theorem d_Person_can_34 : decode zy_Person_can.2.1 34 = .ok (.invokevirtual 52, 3) := by decide +kernel
theorem d_Person_can_37 : decode zy_Person_can.2.1 37 = .ok (.ifCond .eq (18), 3) := by decide +kernel
theorem d_Person_can_40 : decode zy_Person_can.2.1 40 = .ok (.iload_n 1, 1) := by decide +kernel
theorem d_Person_can_41 : decode zy_Person_can.2.1 41 = .ok (.aload_n 0, 1) := by decide +kernel
theorem d_Person_can_42 : decode zy_Person_can.2.1 42 = .ok (.getfield 15, 3) := by decide +kernel
theorem d_Person_can_45 : decode zy_Person_can.2.1 45 = .ok (.isub, 1) := by decide +kernel
theorem d_Person_can_46 : decode zy_Person_can.2.1 46 = .ok (.invokestatic 72, 3) := by decide +kernel
theorem d_Person_can_49 : decode zy_Person_can.2.1 49 = .ok (.iconst 1, 1) := by decide +kernel
theorem d_Person_can_50 : decode zy_Person_can.2.1 50 = .ok (.if_icmp .ne (5), 3) := by decide +kernel
theorem d_Person_can_53 : decode zy_Person_can.2.1 53 = .ok (.iconst 1, 1) := by decide +kernel
theorem d_Person_can_54 : decode zy_Person_can.2.1 54 = .ok (.ireturn, 1) := by decide +kernel
theorem d_Person_can_55 : decode zy_Person_can.2.1 55 = .ok (.aload_n 0, 1) := by decide +kernel
theorem d_Person_can_56 : decode zy_Person_can.2.1 56 = .ok (.getfield 9, 3) := by decide +kernel
theorem d_Person_can_59 : decode zy_Person_can.2.1 59 = .ok (.iconst 3, 1) := by decide +kernel
theorem d_Person_can_60 : decode zy_Person_can.2.1 60 = .ok (.if_icmp .ne (13), 3) := by decide +kernel
theorem d_Person_can_63 : decode zy_Person_can.2.1 63 = .ok (.aload_n 2, 1) := by decide +kernel
theorem d_Person_can_64 : decode zy_Person_can.2.1 64 = .ok (.iload_n 1, 1) := by decide +kernel
theorem d_Person_can_65 : decode zy_Person_can.2.1 65 = .ok (.invokevirtual 78, 3) := by decide +kernel
theorem d_Person_can_68 : decode zy_Person_can.2.1 68 = .ok (.ifCond .ne (5), 3) := by decide +kernel
theorem d_Person_can_71 : decode zy_Person_can.2.1 71 = .ok (.iconst 1, 1) := by decide +kernel
theorem d_Person_can_72 : decode zy_Person_can.2.1 72 = .ok (.ireturn, 1) := by decide +kernel
theorem d_Person_can_73 : decode zy_Person_can.2.1 73 = .ok (.aload_n 0, 1) := by decide +kernel
theorem d_Person_can_74 : decode zy_Person_can.2.1 74 = .ok (.getfield 9, 3) := by decide +kernel
theorem d_Person_can_77 : decode zy_Person_can.2.1 77 = .ok (.iconst 4, 1) := by decide +kernel
theorem d_Person_can_78 : decode zy_Person_can.2.1 78 = .ok (.if_icmp .ne (18), 3) := by decide +kernel
theorem d_Person_can_81 : decode zy_Person_can.2.1 81 = .ok (.aload_n 2, 1) := by decide +kernel
theorem d_Person_can_82 : decode zy_Person_can.2.1 82 = .ok (.getfield 81, 3) := by decide +kernel
theorem d_Person_can_85 : decode zy_Person_can.2.1 85 = .ok (.iload_n 1, 1) := by decide +kernel
theorem d_Person_can_86 : decode zy_Person_can.2.1 86 = .ok (.iaload, 1) := by decide +kernel
theorem d_Person_can_87 : decode zy_Person_can.2.1 87 = .ok (.bipush 50, 2) := by decide +kernel
theorem d_Person_can_89 : decode zy_Person_can.2.1 89 = .ok (.if_icmp .le (7), 3) := by decide +kernel
theorem d_Person_can_92 : decode zy_Person_can.2.1 92 = .ok (.iconst 1, 1) := by decide +kernel
theorem d_Person_can_93 : decode zy_Person_can.2.1 93 = .ok (.goto (4), 3) := by decide +kernel
theorem d_Person_can_96 : decode zy_Person_can.2.1 96 = .ok (.iconst 0, 1) := by decide +kernel
theorem d_Person_can_97 : decode zy_Person_can.2.1 97 = .ok (.ireturn, 1) := by decide +kernel
theorem d_M_both_0 : decode zy_M_both.2.1 0 = .ok (.aload_n 0, 1) := by decide +kernel
theorem d_M_both_1 : decode zy_M_both.2.1 1 = .ok (.invokevirtual 244, 3) := by decide +kernel
theorem d_M_both_4 : decode zy_M_both.2.1 4 = .ok (.aload_n 0, 1) := by decide +kernel
theorem d_M_both_5 : decode zy_M_both.2.1 5 = .ok (.iconst 4, 1) := by decide +kernel
theorem d_M_both_6 : decode zy_M_both.2.1 6 = .ok (.invokevirtual 241, 3) := by decide +kernel
theorem d_M_both_9 : decode zy_M_both.2.1 9 = .ok (.ifCond .eq (20), 3) := by decide +kernel
theorem d_M_both_12 : decode zy_M_both.2.1 12 = .ok (.aload_n 0, 1) := by decide +kernel
theorem d_M_both_13 : decode zy_M_both.2.1 13 = .ok (.invokevirtual 218, 3) := by decide +kernel
theorem d_M_both_16 : decode zy_M_both.2.1 16 = .ok (.aload_n 0, 1) := by decide +kernel
theorem d_M_both_17 : decode zy_M_both.2.1 17 = .ok (.invokevirtual 244, 3) := by decide +kernel
theorem d_M_both_20 : decode zy_M_both.2.1 20 = .ok (.aload_n 0, 1) := by decide +kernel
theorem d_M_both_21 : decode zy_M_both.2.1 21 = .ok (.bipush (-102), 2) := by decide +kernel
theorem d_M_both_23 : decode zy_M_both.2.1 23 = .ok (.invokevirtual 221, 3) := by decide +kernel
theorem d_M_both_26 : decode zy_M_both.2.1 26 = .ok (.goto (-22), 3) := by decide +kernel
theorem d_M_both_29 : decode zy_M_both.2.1 29 = .ok (.return_, 1) := by decide +kernel
theorem d_M_either_0 : decode zy_M_either.2.1 0 = .ok (.aload_n 0, 1) := by decide +kernel
theorem d_M_either_1 : decode zy_M_either.2.1 1 = .ok (.invokevirtual 250, 3) := by decide +kernel
theorem d_M_either_4 : decode zy_M_either.2.1 4 = .ok (.aload_n 0, 1) := by decide +kernel
theorem d_M_either_5 : decode zy_M_either.2.1 5 = .ok (.iconst 3, 1) := by decide +kernel
theorem d_M_either_6 : decode zy_M_either.2.1 6 = .ok (.invokevirtual 241, 3) := by decide +kernel
theorem d_M_either_9 : decode zy_M_either.2.1 9 = .ok (.ifCond .eq (20), 3) := by decide +kernel
theorem d_M_either_12 : decode zy_M_either.2.1 12 = .ok (.aload_n 0, 1) := by decide +kernel
theorem d_M_either_13 : decode zy_M_either.2.1 13 = .ok (.invokevirtual 218, 3) := by decide +kernel
theorem d_M_either_16 : decode zy_M_either.2.1 16 = .ok (.aload_n 0, 1) := by decide +kernel
theorem d_M_either_17 : decode zy_M_either.2.1 17 = .ok (.invokevirtual 250, 3) := by decide +kernel
theorem d_M_either_20 : decode zy_M_either.2.1 20 = .ok (.aload_n 0, 1) := by decide +kernel
theorem d_M_either_21 : decode zy_M_either.2.1 21 = .ok (.bipush (-103), 2) := by decide +kernel
theorem d_M_either_23 : decode zy_M_either.2.1 23 = .ok (.invokevirtual 221, 3) := by decide +kernel
theorem d_M_either_26 : decode zy_M_either.2.1 26 = .ok (.goto (-22), 3) := by decide +kernel
theorem d_M_either_29 : decode zy_M_either.2.1 29 = .ok (.return_, 1) := by decide +kernel
theorem d_M_few_0 : decode zy_M_few.2.1 0 = .ok (.aload_n 0, 1) := by decide +kernel
theorem d_M_few_1 : decode zy_M_few.2.1 1 = .ok (.iload_n 1, 1) := by decide +kernel
theorem d_M_few_2 : decode zy_M_few.2.1 2 = .ok (.invokevirtual 276, 3) := by decide +kernel
theorem d_M_few_5 : decode zy_M_few.2.1 5 = .ok (.ifCond .ne (6), 3) := by decide +kernel
theorem d_M_few_8 : decode zy_M_few.2.1 8 = .ok (.bipush (-2), 2) := by decide +kernel
theorem d_M_few_10 : decode zy_M_few.2.1 10 = .ok (.ireturn, 1) := by decide +kernel
theorem d_M_few_11 : decode zy_M_few.2.1 11 = .ok (.aload_n 0, 1) := by decide +kernel
theorem d_M_few_12 : decode zy_M_few.2.1 12 = .ok (.invokevirtual 279, 3) := by decide +kernel
theorem d_M_few_15 : decode zy_M_few.2.1 15 = .ok (.iconst (-1), 1) := by decide +kernel
theorem d_M_few_16 : decode zy_M_few.2.1 16 = .ok (.istore_n 2, 1) := by decide +kernel
theorem d_M_few_17 : decode zy_M_few.2.1 17 = .ok (.iconst 1, 1) := by decide +kernel
theorem d_M_few_18 : decode zy_M_few.2.1 18 = .ok (.istore_n 3, 1) := by decide +kernel
theorem d_M_few_19 : decode zy_M_few.2.1 19 = .ok (.iload_n 3, 1) := by decide +kernel
theorem d_M_few_20 : decode zy_M_few.2.1 20 = .ok (.iconst 1, 1) := by decide +kernel
theorem d_M_few_21 : decode zy_M_few.2.1 21 = .ok (.aload_n 0, 1) := by decide +kernel
theorem d_M_few_22 : decode zy_M_few.2.1 22 = .ok (.getfield 106, 3) := by decide +kernel
theorem d_M_few_25 : decode zy_M_few.2.1 25 = .ok (.ishl, 1) := by decide +kernel
theorem d_M_few_26 : decode zy_M_few.2.1 26 = .ok (.if_icmp .ge (144), 3) := by decide +kernel
theorem d_M_few_29 : decode zy_M_few.2.1 29 = .ok (.iconst 0, 1) := by decide +kernel
theorem d_M_few_30 : decode zy_M_few.2.1 30 = .ok (.istore 4, 2) := by decide +kernel
theorem d_M_few_32 : decode zy_M_few.2.1 32 = .ok (.iconst 0, 1) := by decide +kernel
theorem d_M_few_33 : decode zy_M_few.2.1 33 = .ok (.istore 5, 2) := by decide +kernel
theorem d_M_few_35 : decode zy_M_few.2.1 35 = .ok (.iload 5, 2) := by decide +kernel
theorem d_M_few_37 : decode zy_M_few.2.1 37 = .ok (.aload_n 0, 1) := by decide +kernel
theorem d_M_few_38 : decode zy_M_few.2.1 38 = .ok (.getfield 113, 3) := by decide +kernel
theorem d_M_few_41 : decode zy_M_few.2.1 41 = .ok (.if_icmp .ge (40), 3) := by decide +kernel
theorem d_M_few_44 : decode zy_M_few.2.1 44 = .ok (.iload 4, 2) := by decide +kernel
theorem d_M_few_46 : decode zy_M_few.2.1 46 = .ok (.iload_n 1, 1) := by decide +kernel
theorem d_M_few_47 : decode zy_M_few.2.1 47 = .ok (.iload 5, 2) := by decide +kernel
theorem d_M_few_49 : decode zy_M_few.2.1 49 = .ok (.ishr, 1) := by decide +kernel
theorem d_M_few_50 : decode zy_M_few.2.1 50 = .ok (.iconst 1, 1) := by decide +kernel
theorem d_M_few_51 : decode zy_M_few.2.1 51 = .ok (.iand, 1) := by decide +kernel
theorem d_M_few_52 : decode zy_M_few.2.1 52 = .ok (.ifCond .ne (19), 3) := by decide +kernel
theorem d_M_few_55 : decode zy_M_few.2.1 55 = .ok (.aload_n 0, 1) := by decide +kernel
theorem d_M_few_56 : decode zy_M_few.2.1 56 = .ok (.getfield 67, 3) := by decide +kernel
theorem d_M_few_59 : decode zy_M_few.2.1 59 = .ok (.iload 5, 2) := by decide +kernel
theorem d_M_few_61 : decode zy_M_few.2.1 61 = .ok (.iaload, 1) := by decide +kernel
theorem d_M_few_62 : decode zy_M_few.2.1 62 = .ok (.iload_n 3, 1) := by decide +kernel
theorem d_M_few_63 : decode zy_M_few.2.1 63 = .ok (.iand, 1) := by decide +kernel
theorem d_M_few_64 : decode zy_M_few.2.1 64 = .ok (.ifCond .eq (7), 3) := by decide +kernel
theorem d_M_few_67 : decode zy_M_few.2.1 67 = .ok (.iconst 1, 1) := by decide +kernel
theorem d_M_few_68 : decode zy_M_few.2.1 68 = .ok (.goto (4), 3) := by decide +kernel
theorem d_M_few_71 : decode zy_M_few.2.1 71 = .ok (.iconst 0, 1) := by decide +kernel
theorem d_M_few_72 : decode zy_M_few.2.1 72 = .ok (.iadd, 1) := by decide +kernel
theorem d_M_few_73 : decode zy_M_few.2.1 73 = .ok (.istore 4, 2) := by decide +kernel
theorem d_M_few_75 : decode zy_M_few.2.1 75 = .ok (.iinc 5 1, 3) := by decide +kernel
theorem d_M_few_78 : decode zy_M_few.2.1 78 = .ok (.goto (-43), 3) := by decide +kernel
theorem d_M_few_81 : decode zy_M_few.2.1 81 = .ok (.iconst 1, 1) := by decide +kernel
theorem d_M_few_82 : decode zy_M_few.2.1 82 = .ok (.istore 5, 2) := by decide +kernel
theorem d_M_few_84 : decode zy_M_few.2.1 84 = .ok (.iconst 0, 1) := by decide +kernel
theorem d_M_few_85 : decode zy_M_few.2.1 85 = .ok (.istore 6, 2) := by decide +kernel
theorem d_M_few_87 : decode zy_M_few.2.1 87 = .ok (.iload 6, 2) := by decide +kernel
theorem d_M_few_89 : decode zy_M_few.2.1 89 = .ok (.aload_n 0, 1) := by decide +kernel
theorem d_M_few_90 : decode zy_M_few.2.1 90 = .ok (.getfield 106, 3) := by decide +kernel
theorem d_M_few_93 : decode zy_M_few.2.1 93 = .ok (.if_icmp .ge (40), 3) := by decide +kernel
theorem d_M_few_96 : decode zy_M_few.2.1 96 = .ok (.iload 5, 2) := by decide +kernel
theorem d_M_few_98 : decode zy_M_few.2.1 98 = .ok (.ifCond .eq (26), 3) := by decide +kernel
theorem d_M_few_101 : decode zy_M_few.2.1 101 = .ok (.iload_n 3, 1) := by decide +kernel
theorem d_M_few_102 : decode zy_M_few.2.1 102 = .ok (.iload 6, 2) := by decide +kernel
theorem d_M_few_104 : decode zy_M_few.2.1 104 = .ok (.ishr, 1) := by decide +kernel
theorem d_M_few_105 : decode zy_M_few.2.1 105 = .ok (.iconst 1, 1) := by decide +kernel
theorem d_M_few_106 : decode zy_M_few.2.1 106 = .ok (.iand, 1) := by decide +kernel
theorem d_M_few_107 : decode zy_M_few.2.1 107 = .ok (.ifCond .eq (13), 3) := by decide +kernel
theorem d_M_few_110 : decode zy_M_few.2.1 110 = .ok (.aload_n 0, 1) := by decide +kernel
theorem d_M_few_111 : decode zy_M_few.2.1 111 = .ok (.getfield 13, 3) := by decide +kernel
theorem d_M_few_114 : decode zy_M_few.2.1 114 = .ok (.iload 6, 2) := by decide +kernel
theorem d_M_few_116 : decode zy_M_few.2.1 116 = .ok (.baload, 1) := by decide +kernel
theorem d_M_few_117 : decode zy_M_few.2.1 117 = .ok (.ifCond .eq (7), 3) := by decide +kernel
theorem d_M_few_120 : decode zy_M_few.2.1 120 = .ok (.iconst 1, 1) := by decide +kernel
theorem d_M_few_121 : decode zy_M_few.2.1 121 = .ok (.goto (4), 3) := by decide +kernel
theorem d_M_few_124 : decode zy_M_few.2.1 124 = .ok (.iconst 0, 1) := by decide +kernel
theorem d_M_few_125 : decode zy_M_few.2.1 125 = .ok (.istore 5, 2) := by decide +kernel
theorem d_M_few_127 : decode zy_M_few.2.1 127 = .ok (.iinc 6 1, 3) := by decide +kernel
theorem d_M_few_130 : decode zy_M_few.2.1 130 = .ok (.goto (-43), 3) := by decide +kernel
theorem d_M_few_133 : decode zy_M_few.2.1 133 = .ok (.iload 5, 2) := by decide +kernel
theorem d_M_few_135 : decode zy_M_few.2.1 135 = .ok (.ifCond .eq (29), 3) := by decide +kernel
theorem d_M_few_138 : decode zy_M_few.2.1 138 = .ok (.iload 4, 2) := by decide +kernel
theorem d_M_few_140 : decode zy_M_few.2.1 140 = .ok (.iload_n 3, 1) := by decide +kernel
theorem d_M_few_141 : decode zy_M_few.2.1 141 = .ok (.invokestatic 288, 3) := by decide +kernel
theorem d_M_few_144 : decode zy_M_few.2.1 144 = .ok (.if_icmp .ge (20), 3) := by decide +kernel
theorem d_M_few_147 : decode zy_M_few.2.1 147 = .ok (.iload_n 2, 1) := by decide +kernel
theorem d_M_few_148 : decode zy_M_few.2.1 148 = .ok (.ifCond .lt (14), 3) := by decide +kernel
theorem d_M_few_151 : decode zy_M_few.2.1 151 = .ok (.iload_n 3, 1) := by decide +kernel
theorem d_M_few_152 : decode zy_M_few.2.1 152 = .ok (.invokestatic 288, 3) := by decide +kernel
theorem d_M_few_155 : decode zy_M_few.2.1 155 = .ok (.iload_n 2, 1) := by decide +kernel
theorem d_M_few_156 : decode zy_M_few.2.1 156 = .ok (.invokestatic 288, 3) := by decide +kernel
theorem d_M_few_159 : decode zy_M_few.2.1 159 = .ok (.if_icmp .ge (5), 3) := by decide +kernel
theorem d_M_few_162 : decode zy_M_few.2.1 162 = .ok (.iload_n 3, 1) := by decide +kernel
theorem d_M_few_163 : decode zy_M_few.2.1 163 = .ok (.istore_n 2, 1) := by decide +kernel
theorem d_M_few_164 : decode zy_M_few.2.1 164 = .ok (.iinc 3 1, 3) := by decide +kernel
theorem d_M_few_167 : decode zy_M_few.2.1 167 = .ok (.goto (-148), 3) := by decide +kernel
theorem d_M_few_170 : decode zy_M_few.2.1 170 = .ok (.iload_n 2, 1) := by decide +kernel
theorem d_M_few_171 : decode zy_M_few.2.1 171 = .ok (.ireturn, 1) := by decide +kernel
theorem d_M_findComes_0 : decode zy_M_findComes.2.1 0 = .ok (.iconst 0, 1) := by decide +kernel
theorem d_M_findComes_1 : decode zy_M_findComes.2.1 1 = .ok (.istore_n 1, 1) := by decide +kernel
theorem d_M_findComes_2 : decode zy_M_findComes.2.1 2 = .ok (.iload_n 1, 1) := by decide +kernel
theorem d_M_findComes_3 : decode zy_M_findComes.2.1 3 = .ok (.aload_n 0, 1) := by decide +kernel
theorem d_M_findComes_4 : decode zy_M_findComes.2.1 4 = .ok (.getfield 113, 3) := by decide +kernel
theorem d_M_findComes_7 : decode zy_M_findComes.2.1 7 = .ok (.if_icmp .ge (49), 3) := by decide +kernel
theorem d_M_findComes_10 : decode zy_M_findComes.2.1 10 = .ok (.iconst 0, 1) := by decide +kernel
theorem d_M_findComes_11 : decode zy_M_findComes.2.1 11 = .ok (.istore_n 2, 1) := by decide +kernel
theorem d_M_findComes_12 : decode zy_M_findComes.2.1 12 = .ok (.iload_n 2, 1) := by decide +kernel
theorem d_M_findComes_13 : decode zy_M_findComes.2.1 13 = .ok (.aload_n 0, 1) := by decide +kernel
theorem d_M_findComes_14 : decode zy_M_findComes.2.1 14 = .ok (.getfield 106, 3) := by decide +kernel
theorem d_M_findComes_17 : decode zy_M_findComes.2.1 17 = .ok (.if_icmp .ge (33), 3) := by decide +kernel
theorem d_M_findComes_20 : decode zy_M_findComes.2.1 20 = .ok (.aload_n 0, 1) := by decide +kernel
theorem d_M_findComes_21 : decode zy_M_findComes.2.1 21 = .ok (.getfield 70, 3) := by decide +kernel
theorem d_M_findComes_24 : decode zy_M_findComes.2.1 24 = .ok (.bipush 6, 2) := by decide +kernel
theorem d_M_findComes_26 : decode zy_M_findComes.2.1 26 = .ok (.iload_n 1, 1) := by decide +kernel
theorem d_M_findComes_27 : decode zy_M_findComes.2.1 27 = .ok (.imul, 1) := by decide +kernel
theorem d_M_findComes_28 : decode zy_M_findComes.2.1 28 = .ok (.iload_n 2, 1) := by decide +kernel
theorem d_M_findComes_29 : decode zy_M_findComes.2.1 29 = .ok (.iadd, 1) := by decide +kernel
theorem d_M_findComes_30 : decode zy_M_findComes.2.1 30 = .ok (.aload_n 0, 1) := by decide +kernel
theorem d_M_findComes_31 : decode zy_M_findComes.2.1 31 = .ok (.iload_n 1, 1) := by decide +kernel
theorem d_M_findComes_32 : decode zy_M_findComes.2.1 32 = .ok (.iload_n 2, 1) := by decide +kernel
theorem d_M_findComes_33 : decode zy_M_findComes.2.1 33 = .ok (.invokevirtual 153, 3) := by decide +kernel
theorem d_M_findComes_36 : decode zy_M_findComes.2.1 36 = .ok (.aload_n 0, 1) := by decide +kernel
theorem d_M_findComes_37 : decode zy_M_findComes.2.1 37 = .ok (.getfield 17, 3) := by decide +kernel
theorem d_M_findComes_40 : decode zy_M_findComes.2.1 40 = .ok (.iload_n 2, 1) := by decide +kernel
theorem d_M_findComes_41 : decode zy_M_findComes.2.1 41 = .ok (.iaload, 1) := by decide +kernel
theorem d_M_findComes_42 : decode zy_M_findComes.2.1 42 = .ok (.imul, 1) := by decide +kernel
theorem d_M_findComes_43 : decode zy_M_findComes.2.1 43 = .ok (.iastore, 1) := by decide +kernel
theorem d_M_findComes_44 : decode zy_M_findComes.2.1 44 = .ok (.iinc 2 1, 3) := by decide +kernel
theorem d_M_findComes_47 : decode zy_M_findComes.2.1 47 = .ok (.goto (-35), 3) := by decide +kernel
theorem d_M_findComes_50 : decode zy_M_findComes.2.1 50 = .ok (.iinc 1 1, 3) := by decide +kernel
theorem d_M_findComes_53 : decode zy_M_findComes.2.1 53 = .ok (.goto (-51), 3) := by decide +kernel
theorem d_M_findComes_56 : decode zy_M_findComes.2.1 56 = .ok (.return_, 1) := by decide +kernel
theorem d_M_opens_0 : decode zy_M_opens.2.1 0 = .ok (.aload_n 0, 1) := by decide +kernel
theorem d_M_opens_1 : decode zy_M_opens.2.1 1 = .ok (.getfield 212, 3) := by decide +kernel
theorem d_M_opens_4 : decode zy_M_opens.2.1 4 = .ok (.iconst 5, 1) := by decide +kernel
theorem d_M_opens_5 : decode zy_M_opens.2.1 5 = .ok (.if_icmp .ne (9), 3) := by decide +kernel
theorem d_M_opens_8 : decode zy_M_opens.2.1 8 = .ok (.aload_n 0, 1) := by decide +kernel
theorem d_M_opens_9 : decode zy_M_opens.2.1 9 = .ok (.invokevirtual 215, 3) := by decide +kernel
theorem d_M_opens_12 : decode zy_M_opens.2.1 12 = .ok (.iconst 0, 1) := by decide +kernel
theorem d_M_opens_13 : decode zy_M_opens.2.1 13 = .ok (.ireturn, 1) := by decide +kernel
theorem d_M_opens_14 : decode zy_M_opens.2.1 14 = .ok (.aload_n 0, 1) := by decide +kernel
theorem d_M_opens_15 : decode zy_M_opens.2.1 15 = .ok (.dup, 1) := by decide +kernel
theorem d_M_opens_16 : decode zy_M_opens.2.1 16 = .ok (.getfield 212, 3) := by decide +kernel
theorem d_M_opens_19 : decode zy_M_opens.2.1 19 = .ok (.iconst 1, 1) := by decide +kernel
theorem d_M_opens_20 : decode zy_M_opens.2.1 20 = .ok (.iadd, 1) := by decide +kernel
theorem d_M_opens_21 : decode zy_M_opens.2.1 21 = .ok (.putfield 212, 3) := by decide +kernel
theorem d_M_opens_24 : decode zy_M_opens.2.1 24 = .ok (.aload_n 0, 1) := by decide +kernel
theorem d_M_opens_25 : decode zy_M_opens.2.1 25 = .ok (.invokevirtual 218, 3) := by decide +kernel
theorem d_M_opens_28 : decode zy_M_opens.2.1 28 = .ok (.iconst 1, 1) := by decide +kernel
theorem d_M_opens_29 : decode zy_M_opens.2.1 29 = .ok (.ireturn, 1) := by decide +kernel
theorem d_M_pay_0 : decode zy_M_pay.2.1 0 = .ok (.iload_n 1, 1) := by decide +kernel
theorem d_M_pay_1 : decode zy_M_pay.2.1 1 = .ok (.iconst (-1), 1) := by decide +kernel
theorem d_M_pay_2 : decode zy_M_pay.2.1 2 = .ok (.if_icmp .ne (37), 3) := by decide +kernel
theorem d_M_pay_5 : decode zy_M_pay.2.1 5 = .ok (.iconst 0, 1) := by decide +kernel
theorem d_M_pay_6 : decode zy_M_pay.2.1 6 = .ok (.istore_n 2, 1) := by decide +kernel
theorem d_M_pay_7 : decode zy_M_pay.2.1 7 = .ok (.iconst 0, 1) := by decide +kernel
theorem d_M_pay_8 : decode zy_M_pay.2.1 8 = .ok (.istore_n 3, 1) := by decide +kernel
theorem d_M_pay_9 : decode zy_M_pay.2.1 9 = .ok (.iload_n 3, 1) := by decide +kernel
theorem d_M_pay_10 : decode zy_M_pay.2.1 10 = .ok (.aload_n 0, 1) := by decide +kernel
theorem d_M_pay_11 : decode zy_M_pay.2.1 11 = .ok (.getfield 113, 3) := by decide +kernel
theorem d_M_pay_14 : decode zy_M_pay.2.1 14 = .ok (.if_icmp .ge (23), 3) := by decide +kernel
theorem d_M_pay_17 : decode zy_M_pay.2.1 17 = .ok (.iload_n 2, 1) := by decide +kernel
theorem d_M_pay_18 : decode zy_M_pay.2.1 18 = .ok (.aload_n 0, 1) := by decide +kernel
theorem d_M_pay_19 : decode zy_M_pay.2.1 19 = .ok (.iload_n 3, 1) := by decide +kernel
theorem d_M_pay_20 : decode zy_M_pay.2.1 20 = .ok (.invokevirtual 336, 3) := by decide +kernel
theorem d_M_pay_23 : decode zy_M_pay.2.1 23 = .ok (.aload_n 0, 1) := by decide +kernel
theorem d_M_pay_24 : decode zy_M_pay.2.1 24 = .ok (.iload_n 3, 1) := by decide +kernel
theorem d_M_pay_25 : decode zy_M_pay.2.1 25 = .ok (.invokevirtual 150, 3) := by decide +kernel
theorem d_M_pay_28 : decode zy_M_pay.2.1 28 = .ok (.imul, 1) := by decide +kernel
theorem d_M_pay_29 : decode zy_M_pay.2.1 29 = .ok (.iadd, 1) := by decide +kernel
theorem d_M_pay_30 : decode zy_M_pay.2.1 30 = .ok (.istore_n 2, 1) := by decide +kernel
theorem d_M_pay_31 : decode zy_M_pay.2.1 31 = .ok (.iinc 3 1, 3) := by decide +kernel
theorem d_M_pay_34 : decode zy_M_pay.2.1 34 = .ok (.goto (-25), 3) := by decide +kernel
theorem d_M_pay_37 : decode zy_M_pay.2.1 37 = .ok (.iload_n 2, 1) := by decide +kernel
theorem d_M_pay_38 : decode zy_M_pay.2.1 38 = .ok (.ireturn, 1) := by decide +kernel
theorem d_M_pay_39 : decode zy_M_pay.2.1 39 = .ok (.aload_n 0, 1) := by decide +kernel
theorem d_M_pay_40 : decode zy_M_pay.2.1 40 = .ok (.iload_n 1, 1) := by decide +kernel
theorem d_M_pay_41 : decode zy_M_pay.2.1 41 = .ok (.invokevirtual 133, 3) := by decide +kernel
theorem d_M_pay_44 : decode zy_M_pay.2.1 44 = .ok (.ifCond .eq (17), 3) := by decide +kernel
theorem d_M_pay_47 : decode zy_M_pay.2.1 47 = .ok (.aload_n 0, 1) := by decide +kernel
theorem d_M_pay_48 : decode zy_M_pay.2.1 48 = .ok (.iload_n 1, 1) := by decide +kernel
theorem d_M_pay_49 : decode zy_M_pay.2.1 49 = .ok (.invokevirtual 336, 3) := by decide +kernel
theorem d_M_pay_52 : decode zy_M_pay.2.1 52 = .ok (.aload_n 0, 1) := by decide +kernel
theorem d_M_pay_53 : decode zy_M_pay.2.1 53 = .ok (.iload_n 1, 1) := by decide +kernel
theorem d_M_pay_54 : decode zy_M_pay.2.1 54 = .ok (.invokevirtual 150, 3) := by decide +kernel
theorem d_M_pay_57 : decode zy_M_pay.2.1 57 = .ok (.imul, 1) := by decide +kernel
theorem d_M_pay_58 : decode zy_M_pay.2.1 58 = .ok (.goto (5), 3) := by decide +kernel
theorem d_M_pay_61 : decode zy_M_pay.2.1 61 = .ok (.bipush (-2), 2) := by decide +kernel
theorem d_M_pay_63 : decode zy_M_pay.2.1 63 = .ok (.ireturn, 1) := by decide +kernel
theorem d_M_person_0 : decode zy_M_person.2.1 0 = .ok (.aload_n 0, 1) := by decide +kernel
theorem d_M_person_1 : decode zy_M_person.2.1 1 = .ok (.iload_n 1, 1) := by decide +kernel
theorem d_M_person_2 : decode zy_M_person.2.1 2 = .ok (.iload_n 2, 1) := by decide +kernel
theorem d_M_person_3 : decode zy_M_person.2.1 3 = .ok (.invokevirtual 124, 3) := by decide +kernel
theorem d_M_person_6 : decode zy_M_person.2.1 6 = .ok (.ifCond .ne (6), 3) := by decide +kernel
theorem d_M_person_9 : decode zy_M_person.2.1 9 = .ok (.bipush (-2), 2) := by decide +kernel
theorem d_M_person_11 : decode zy_M_person.2.1 11 = .ok (.ireturn, 1) := by decide +kernel
theorem d_M_person_12 : decode zy_M_person.2.1 12 = .ok (.aload_n 0, 1) := by decide +kernel
theorem d_M_person_13 : decode zy_M_person.2.1 13 = .ok (.getfield 113, 3) := by decide +kernel
theorem d_M_person_16 : decode zy_M_person.2.1 16 = .ok (.bipush 7, 2) := by decide +kernel
theorem d_M_person_18 : decode zy_M_person.2.1 18 = .ok (.if_icmp .ne (6), 3) := by decide +kernel
theorem d_M_person_21 : decode zy_M_person.2.1 21 = .ok (.bipush (-4), 2) := by decide +kernel
theorem d_M_person_23 : decode zy_M_person.2.1 23 = .ok (.ireturn, 1) := by decide +kernel
theorem d_M_person_24 : decode zy_M_person.2.1 24 = .ok (.aload_n 0, 1) := by decide +kernel
theorem d_M_person_25 : decode zy_M_person.2.1 25 = .ok (.getfield 21, 3) := by decide +kernel
theorem d_M_person_28 : decode zy_M_person.2.1 28 = .ok (.aload_n 0, 1) := by decide +kernel
theorem d_M_person_29 : decode zy_M_person.2.1 29 = .ok (.getfield 113, 3) := by decide +kernel
theorem d_M_person_32 : decode zy_M_person.2.1 32 = .ok (.iload_n 1, 1) := by decide +kernel
theorem d_M_person_33 : decode zy_M_person.2.1 33 = .ok (.iastore, 1) := by decide +kernel
theorem d_M_person_34 : decode zy_M_person.2.1 34 = .ok (.aload_n 0, 1) := by decide +kernel
theorem d_M_person_35 : decode zy_M_person.2.1 35 = .ok (.getfield 24, 3) := by decide +kernel
theorem d_M_person_38 : decode zy_M_person.2.1 38 = .ok (.aload_n 0, 1) := by decide +kernel
theorem d_M_person_39 : decode zy_M_person.2.1 39 = .ok (.getfield 113, 3) := by decide +kernel
theorem d_M_person_42 : decode zy_M_person.2.1 42 = .ok (.iload_n 2, 1) := by decide +kernel
theorem d_M_person_43 : decode zy_M_person.2.1 43 = .ok (.bipush 100, 2) := by decide +kernel
theorem d_M_person_45 : decode zy_M_person.2.1 45 = .ok (.idiv, 1) := by decide +kernel
theorem d_M_person_46 : decode zy_M_person.2.1 46 = .ok (.iastore, 1) := by decide +kernel
theorem d_M_person_47 : decode zy_M_person.2.1 47 = .ok (.aload_n 0, 1) := by decide +kernel
theorem d_M_person_48 : decode zy_M_person.2.1 48 = .ok (.getfield 27, 3) := by decide +kernel
theorem d_M_person_51 : decode zy_M_person.2.1 51 = .ok (.aload_n 0, 1) := by decide +kernel
theorem d_M_person_52 : decode zy_M_person.2.1 52 = .ok (.getfield 113, 3) := by decide +kernel
theorem d_M_person_55 : decode zy_M_person.2.1 55 = .ok (.iload_n 2, 1) := by decide +kernel
theorem d_M_person_56 : decode zy_M_person.2.1 56 = .ok (.bipush 10, 2) := by decide +kernel
theorem d_M_person_58 : decode zy_M_person.2.1 58 = .ok (.idiv, 1) := by decide +kernel
theorem d_M_person_59 : decode zy_M_person.2.1 59 = .ok (.bipush 10, 2) := by decide +kernel
theorem d_M_person_61 : decode zy_M_person.2.1 61 = .ok (.irem, 1) := by decide +kernel
theorem d_M_person_62 : decode zy_M_person.2.1 62 = .ok (.iastore, 1) := by decide +kernel
theorem d_M_person_63 : decode zy_M_person.2.1 63 = .ok (.aload_n 0, 1) := by decide +kernel
theorem d_M_person_64 : decode zy_M_person.2.1 64 = .ok (.getfield 30, 3) := by decide +kernel
theorem d_M_person_67 : decode zy_M_person.2.1 67 = .ok (.aload_n 0, 1) := by decide +kernel
theorem d_M_person_68 : decode zy_M_person.2.1 68 = .ok (.getfield 113, 3) := by decide +kernel
theorem d_M_person_71 : decode zy_M_person.2.1 71 = .ok (.iload_n 2, 1) := by decide +kernel
theorem d_M_person_72 : decode zy_M_person.2.1 72 = .ok (.bipush 10, 2) := by decide +kernel
theorem d_M_person_74 : decode zy_M_person.2.1 74 = .ok (.irem, 1) := by decide +kernel
theorem d_M_person_75 : decode zy_M_person.2.1 75 = .ok (.iastore, 1) := by decide +kernel
theorem d_M_person_76 : decode zy_M_person.2.1 76 = .ok (.aload_n 0, 1) := by decide +kernel
theorem d_M_person_77 : decode zy_M_person.2.1 77 = .ok (.dup, 1) := by decide +kernel
theorem d_M_person_78 : decode zy_M_person.2.1 78 = .ok (.getfield 113, 3) := by decide +kernel
theorem d_M_person_81 : decode zy_M_person.2.1 81 = .ok (.iconst 1, 1) := by decide +kernel
theorem d_M_person_82 : decode zy_M_person.2.1 82 = .ok (.iadd, 1) := by decide +kernel
theorem d_M_person_83 : decode zy_M_person.2.1 83 = .ok (.putfield 113, 3) := by decide +kernel
theorem d_M_person_86 : decode zy_M_person.2.1 86 = .ok (.aload_n 0, 1) := by decide +kernel
theorem d_M_person_87 : decode zy_M_person.2.1 87 = .ok (.getfield 113, 3) := by decide +kernel
theorem d_M_person_90 : decode zy_M_person.2.1 90 = .ok (.iconst 1, 1) := by decide +kernel
theorem d_M_person_91 : decode zy_M_person.2.1 91 = .ok (.isub, 1) := by decide +kernel
theorem d_M_person_92 : decode zy_M_person.2.1 92 = .ok (.ireturn, 1) := by decide +kernel
theorem d_M_sum_0 : decode zy_M_sum.2.1 0 = .ok (.aload_n 0, 1) := by decide +kernel
theorem d_M_sum_1 : decode zy_M_sum.2.1 1 = .ok (.invokevirtual 238, 3) := by decide +kernel
theorem d_M_sum_4 : decode zy_M_sum.2.1 4 = .ok (.aload_n 0, 1) := by decide +kernel
theorem d_M_sum_5 : decode zy_M_sum.2.1 5 = .ok (.bipush 43, 2) := by decide +kernel
theorem d_M_sum_7 : decode zy_M_sum.2.1 7 = .ok (.invokevirtual 225, 3) := by decide +kernel
theorem d_M_sum_10 : decode zy_M_sum.2.1 10 = .ok (.ifCond .ne (12), 3) := by decide +kernel
theorem d_M_sum_13 : decode zy_M_sum.2.1 13 = .ok (.aload_n 0, 1) := by decide +kernel
theorem d_M_sum_14 : decode zy_M_sum.2.1 14 = .ok (.bipush 45, 2) := by decide +kernel
theorem d_M_sum_16 : decode zy_M_sum.2.1 16 = .ok (.invokevirtual 225, 3) := by decide +kernel
theorem d_M_sum_19 : decode zy_M_sum.2.1 19 = .ok (.ifCond .eq (27), 3) := by decide +kernel
theorem d_M_sum_22 : decode zy_M_sum.2.1 22 = .ok (.aload_n 0, 1) := by decide +kernel
theorem d_M_sum_23 : decode zy_M_sum.2.1 23 = .ok (.getfield 193, 3) := by decide +kernel
theorem d_M_sum_26 : decode zy_M_sum.2.1 26 = .ok (.istore_n 1, 1) := by decide +kernel
theorem d_M_sum_27 : decode zy_M_sum.2.1 27 = .ok (.aload_n 0, 1) := by decide +kernel
theorem d_M_sum_28 : decode zy_M_sum.2.1 28 = .ok (.invokevirtual 218, 3) := by decide +kernel
theorem d_M_sum_31 : decode zy_M_sum.2.1 31 = .ok (.aload_n 0, 1) := by decide +kernel
theorem d_M_sum_32 : decode zy_M_sum.2.1 32 = .ok (.invokevirtual 238, 3) := by decide +kernel
theorem d_M_sum_35 : decode zy_M_sum.2.1 35 = .ok (.aload_n 0, 1) := by decide +kernel
theorem d_M_sum_36 : decode zy_M_sum.2.1 36 = .ok (.bipush (-100), 2) := by decide +kernel
theorem d_M_sum_38 : decode zy_M_sum.2.1 38 = .ok (.iload_n 1, 1) := by decide +kernel
theorem d_M_sum_39 : decode zy_M_sum.2.1 39 = .ok (.isub, 1) := by decide +kernel
theorem d_M_sum_40 : decode zy_M_sum.2.1 40 = .ok (.invokevirtual 221, 3) := by decide +kernel
theorem d_M_sum_43 : decode zy_M_sum.2.1 43 = .ok (.goto (-39), 3) := by decide +kernel
theorem d_M_sum_46 : decode zy_M_sum.2.1 46 = .ok (.return_, 1) := by decide +kernel
theorem d_M_term_0 : decode zy_M_term.2.1 0 = .ok (.aload_n 0, 1) := by decide +kernel
theorem d_M_term_1 : decode zy_M_term.2.1 1 = .ok (.invokevirtual 232, 3) := by decide +kernel
theorem d_M_term_4 : decode zy_M_term.2.1 4 = .ok (.aload_n 0, 1) := by decide +kernel
theorem d_M_term_5 : decode zy_M_term.2.1 5 = .ok (.bipush 42, 2) := by decide +kernel
theorem d_M_term_7 : decode zy_M_term.2.1 7 = .ok (.invokevirtual 225, 3) := by decide +kernel
theorem d_M_term_10 : decode zy_M_term.2.1 10 = .ok (.ifCond .eq (21), 3) := by decide +kernel
theorem d_M_term_13 : decode zy_M_term.2.1 13 = .ok (.aload_n 0, 1) := by decide +kernel
theorem d_M_term_14 : decode zy_M_term.2.1 14 = .ok (.invokevirtual 218, 3) := by decide +kernel
theorem d_M_term_17 : decode zy_M_term.2.1 17 = .ok (.aload_n 0, 1) := by decide +kernel
theorem d_M_term_18 : decode zy_M_term.2.1 18 = .ok (.invokevirtual 232, 3) := by decide +kernel
theorem d_M_term_21 : decode zy_M_term.2.1 21 = .ok (.aload_n 0, 1) := by decide +kernel
theorem d_M_term_22 : decode zy_M_term.2.1 22 = .ok (.sipush (-142), 3) := by decide +kernel
theorem d_M_term_25 : decode zy_M_term.2.1 25 = .ok (.invokevirtual 221, 3) := by decide +kernel
theorem d_M_term_28 : decode zy_M_term.2.1 28 = .ok (.goto (-24), 3) := by decide +kernel
theorem d_M_term_31 : decode zy_M_term.2.1 31 = .ok (.return_, 1) := by decide +kernel
theorem d_M_told_0 : decode zy_M_told.2.1 0 = .ok (.aload_n 0, 1) := by decide +kernel
theorem d_M_told_1 : decode zy_M_told.2.1 1 = .ok (.iload_n 1, 1) := by decide +kernel
theorem d_M_told_2 : decode zy_M_told.2.1 2 = .ok (.invokevirtual 133, 3) := by decide +kernel
theorem d_M_told_5 : decode zy_M_told.2.1 5 = .ok (.ifCond .eq (29), 3) := by decide +kernel
theorem d_M_told_8 : decode zy_M_told.2.1 8 = .ok (.iload_n 3, 1) := by decide +kernel
theorem d_M_told_9 : decode zy_M_told.2.1 9 = .ok (.i2l, 1) := by decide +kernel
theorem d_M_told_10 : decode zy_M_told.2.1 10 = .ok (.lconst 0, 1) := by decide +kernel
theorem d_M_told_11 : decode zy_M_told.2.1 11 = .ok (.ldc2_w 128, 3) := by decide +kernel
theorem d_M_told_14 : decode zy_M_told.2.1 14 = .ok (.invokestatic 109, 3) := by decide +kernel
theorem d_M_told_17 : decode zy_M_told.2.1 17 = .ok (.ifCond .eq (17), 3) := by decide +kernel
theorem d_M_told_20 : decode zy_M_told.2.1 20 = .ok (.iload_n 3, 1) := by decide +kernel
theorem d_M_told_21 : decode zy_M_told.2.1 21 = .ok (.bipush 6, 2) := by decide +kernel
theorem d_M_told_23 : decode zy_M_told.2.1 23 = .ok (.if_icmp .le (14), 3) := by decide +kernel
theorem d_M_told_26 : decode zy_M_told.2.1 26 = .ok (.aload_n 0, 1) := by decide +kernel
theorem d_M_told_27 : decode zy_M_told.2.1 27 = .ok (.iload_n 2, 1) := by decide +kernel
