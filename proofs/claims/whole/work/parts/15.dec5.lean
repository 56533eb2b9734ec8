theorem d_M_told_28 : decode zy_M_told.2.1 28 = .ok (.invokevirtual 120, 3) := by decide +kernel
theorem d_M_told_31 : decode zy_M_told.2.1 31 = .ok (.ifCond .ne (6), 3) := by decide +kernel
theorem d_M_told_34 : decode zy_M_told.2.1 34 = .ok (.bipush (-5), 2) := by decide +kernel
theorem d_M_told_36 : decode zy_M_told.2.1 36 = .ok (.ireturn, 1) := by decide +kernel
theorem d_M_told_37 : decode zy_M_told.2.1 37 = .ok (.iload_n 3, 1) := by decide +kernel
theorem d_M_told_38 : decode zy_M_told.2.1 38 = .ok (.tableswitch (119) (0) (8) #[50, 57, 64, 71, 78, 84, 90, 97, 112], 50) := by decide +kernel
theorem d_M_told_88 : decode zy_M_told.2.1 88 = .ok (.aload_n 0, 1) := by decide +kernel
theorem d_M_told_89 : decode zy_M_told.2.1 89 = .ok (.getfield 21, 3) := by decide +kernel
theorem d_M_told_92 : decode zy_M_told.2.1 92 = .ok (.iload_n 1, 1) := by decide +kernel
theorem d_M_told_93 : decode zy_M_told.2.1 93 = .ok (.iaload, 1) := by decide +kernel
theorem d_M_told_94 : decode zy_M_told.2.1 94 = .ok (.ireturn, 1) := by decide +kernel
theorem d_M_told_95 : decode zy_M_told.2.1 95 = .ok (.aload_n 0, 1) := by decide +kernel
theorem d_M_told_96 : decode zy_M_told.2.1 96 = .ok (.getfield 24, 3) := by decide +kernel
theorem d_M_told_99 : decode zy_M_told.2.1 99 = .ok (.iload_n 1, 1) := by decide +kernel
theorem d_M_told_100 : decode zy_M_told.2.1 100 = .ok (.iaload, 1) := by decide +kernel
theorem d_M_told_101 : decode zy_M_told.2.1 101 = .ok (.ireturn, 1) := by decide +kernel
theorem d_M_told_102 : decode zy_M_told.2.1 102 = .ok (.aload_n 0, 1) := by decide +kernel
theorem d_M_told_103 : decode zy_M_told.2.1 103 = .ok (.getfield 27, 3) := by decide +kernel
theorem d_M_told_106 : decode zy_M_told.2.1 106 = .ok (.iload_n 1, 1) := by decide +kernel
theorem d_M_told_107 : decode zy_M_told.2.1 107 = .ok (.iaload, 1) := by decide +kernel
theorem d_M_told_108 : decode zy_M_told.2.1 108 = .ok (.ireturn, 1) := by decide +kernel
theorem d_M_told_109 : decode zy_M_told.2.1 109 = .ok (.aload_n 0, 1) := by decide +kernel
theorem d_M_told_110 : decode zy_M_told.2.1 110 = .ok (.getfield 30, 3) := by decide +kernel
theorem d_M_told_113 : decode zy_M_told.2.1 113 = .ok (.iload_n 1, 1) := by decide +kernel
theorem d_M_told_114 : decode zy_M_told.2.1 114 = .ok (.iaload, 1) := by decide +kernel
theorem d_M_told_115 : decode zy_M_told.2.1 115 = .ok (.ireturn, 1) := by decide +kernel
theorem d_M_told_116 : decode zy_M_told.2.1 116 = .ok (.aload_n 0, 1) := by decide +kernel
theorem d_M_told_117 : decode zy_M_told.2.1 117 = .ok (.iload_n 1, 1) := by decide +kernel
theorem d_M_told_118 : decode zy_M_told.2.1 118 = .ok (.invokevirtual 144, 3) := by decide +kernel
theorem d_M_told_121 : decode zy_M_told.2.1 121 = .ok (.ireturn, 1) := by decide +kernel
theorem d_M_told_122 : decode zy_M_told.2.1 122 = .ok (.aload_n 0, 1) := by decide +kernel
theorem d_M_told_123 : decode zy_M_told.2.1 123 = .ok (.iload_n 1, 1) := by decide +kernel
theorem d_M_told_124 : decode zy_M_told.2.1 124 = .ok (.invokevirtual 150, 3) := by decide +kernel
theorem d_M_told_127 : decode zy_M_told.2.1 127 = .ok (.ireturn, 1) := by decide +kernel
theorem d_M_told_128 : decode zy_M_told.2.1 128 = .ok (.aload_n 0, 1) := by decide +kernel
theorem d_M_told_129 : decode zy_M_told.2.1 129 = .ok (.getfield 33, 3) := by decide +kernel
theorem d_M_told_132 : decode zy_M_told.2.1 132 = .ok (.iload_n 1, 1) := by decide +kernel
theorem d_M_told_133 : decode zy_M_told.2.1 133 = .ok (.iaload, 1) := by decide +kernel
theorem d_M_told_134 : decode zy_M_told.2.1 134 = .ok (.ireturn, 1) := by decide +kernel
theorem d_M_told_135 : decode zy_M_told.2.1 135 = .ok (.aload_n 0, 1) := by decide +kernel
theorem d_M_told_136 : decode zy_M_told.2.1 136 = .ok (.iload_n 1, 1) := by decide +kernel
theorem d_M_told_137 : decode zy_M_told.2.1 137 = .ok (.iload_n 2, 1) := by decide +kernel
theorem d_M_told_138 : decode zy_M_told.2.1 138 = .ok (.invokevirtual 147, 3) := by decide +kernel
theorem d_M_told_141 : decode zy_M_told.2.1 141 = .ok (.ifCond .eq (7), 3) := by decide +kernel
theorem d_M_told_144 : decode zy_M_told.2.1 144 = .ok (.iconst 1, 1) := by decide +kernel
theorem d_M_told_145 : decode zy_M_told.2.1 145 = .ok (.goto (4), 3) := by decide +kernel
theorem d_M_told_148 : decode zy_M_told.2.1 148 = .ok (.iconst 0, 1) := by decide +kernel
theorem d_M_told_149 : decode zy_M_told.2.1 149 = .ok (.ireturn, 1) := by decide +kernel
theorem d_M_told_150 : decode zy_M_told.2.1 150 = .ok (.aload_n 0, 1) := by decide +kernel
theorem d_M_told_151 : decode zy_M_told.2.1 151 = .ok (.iload_n 1, 1) := by decide +kernel
theorem d_M_told_152 : decode zy_M_told.2.1 152 = .ok (.iload_n 2, 1) := by decide +kernel
theorem d_M_told_153 : decode zy_M_told.2.1 153 = .ok (.invokevirtual 153, 3) := by decide +kernel
theorem d_M_told_156 : decode zy_M_told.2.1 156 = .ok (.ireturn, 1) := by decide +kernel
theorem d_M_told_157 : decode zy_M_told.2.1 157 = .ok (.aload_n 0, 1) := by decide +kernel
theorem d_M_told_158 : decode zy_M_told.2.1 158 = .ok (.iload_n 1, 1) := by decide +kernel
theorem d_M_told_159 : decode zy_M_told.2.1 159 = .ok (.iload_n 2, 1) := by decide +kernel
theorem d_M_told_160 : decode zy_M_told.2.1 160 = .ok (.invokevirtual 156, 3) := by decide +kernel
theorem d_M_told_163 : decode zy_M_told.2.1 163 = .ok (.ireturn, 1) := by decide +kernel
theorem d_X_lookAtGains_0 : decode zy_X_lookAtGains.2.1 0 = .ok (.aload_n 0, 1) := by decide +kernel
theorem d_X_lookAtGains_1 : decode zy_X_lookAtGains.2.1 1 = .ok (.getfield 52, 3) := by decide +kernel
theorem d_X_lookAtGains_4 : decode zy_X_lookAtGains.2.1 4 = .ok (.aload_n 0, 1) := by decide +kernel
theorem d_X_lookAtGains_5 : decode zy_X_lookAtGains.2.1 5 = .ok (.getfield 10, 3) := by decide +kernel
theorem d_X_lookAtGains_8 : decode zy_X_lookAtGains.2.1 8 = .ok (.getfield 254, 3) := by decide +kernel
theorem d_X_lookAtGains_11 : decode zy_X_lookAtGains.2.1 11 = .ok (.putfield 358, 3) := by decide +kernel
theorem d_X_lookAtGains_14 : decode zy_X_lookAtGains.2.1 14 = .ok (.aload_n 0, 1) := by decide +kernel
theorem d_X_lookAtGains_15 : decode zy_X_lookAtGains.2.1 15 = .ok (.getfield 52, 3) := by decide +kernel
theorem d_X_lookAtGains_18 : decode zy_X_lookAtGains.2.1 18 = .ok (.aload_n 0, 1) := by decide +kernel
theorem d_X_lookAtGains_19 : decode zy_X_lookAtGains.2.1 19 = .ok (.getfield 10, 3) := by decide +kernel
theorem d_X_lookAtGains_22 : decode zy_X_lookAtGains.2.1 22 = .ok (.getfield 298, 3) := by decide +kernel
theorem d_X_lookAtGains_25 : decode zy_X_lookAtGains.2.1 25 = .ok (.putfield 361, 3) := by decide +kernel
theorem d_X_lookAtGains_28 : decode zy_X_lookAtGains.2.1 28 = .ok (.iconst 0, 1) := by decide +kernel
theorem d_X_lookAtGains_29 : decode zy_X_lookAtGains.2.1 29 = .ok (.istore_n 2, 1) := by decide +kernel
theorem d_X_lookAtGains_30 : decode zy_X_lookAtGains.2.1 30 = .ok (.iload_n 2, 1) := by decide +kernel
theorem d_X_lookAtGains_31 : decode zy_X_lookAtGains.2.1 31 = .ok (.aload_n 0, 1) := by decide +kernel
theorem d_X_lookAtGains_32 : decode zy_X_lookAtGains.2.1 32 = .ok (.getfield 10, 3) := by decide +kernel
theorem d_X_lookAtGains_35 : decode zy_X_lookAtGains.2.1 35 = .ok (.getfield 254, 3) := by decide +kernel
theorem d_X_lookAtGains_38 : decode zy_X_lookAtGains.2.1 38 = .ok (.if_icmp .ge (102), 3) := by decide +kernel
theorem d_X_lookAtGains_41 : decode zy_X_lookAtGains.2.1 41 = .ok (.iconst 0, 1) := by decide +kernel
theorem d_X_lookAtGains_42 : decode zy_X_lookAtGains.2.1 42 = .ok (.istore_n 3, 1) := by decide +kernel
theorem d_X_lookAtGains_43 : decode zy_X_lookAtGains.2.1 43 = .ok (.iload_n 3, 1) := by decide +kernel
theorem d_X_lookAtGains_44 : decode zy_X_lookAtGains.2.1 44 = .ok (.aload_n 0, 1) := by decide +kernel
theorem d_X_lookAtGains_45 : decode zy_X_lookAtGains.2.1 45 = .ok (.getfield 22, 3) := by decide +kernel
theorem d_X_lookAtGains_48 : decode zy_X_lookAtGains.2.1 48 = .ok (.if_icmp .ge (86), 3) := by decide +kernel
theorem d_X_lookAtGains_51 : decode zy_X_lookAtGains.2.1 51 = .ok (.iload_n 1, 1) := by decide +kernel
theorem d_X_lookAtGains_52 : decode zy_X_lookAtGains.2.1 52 = .ok (.iload_n 3, 1) := by decide +kernel
theorem d_X_lookAtGains_53 : decode zy_X_lookAtGains.2.1 53 = .ok (.ishr, 1) := by decide +kernel
theorem d_X_lookAtGains_54 : decode zy_X_lookAtGains.2.1 54 = .ok (.iconst 1, 1) := by decide +kernel
theorem d_X_lookAtGains_55 : decode zy_X_lookAtGains.2.1 55 = .ok (.iand, 1) := by decide +kernel
theorem d_X_lookAtGains_56 : decode zy_X_lookAtGains.2.1 56 = .ok (.iconst 1, 1) := by decide +kernel
theorem d_X_lookAtGains_57 : decode zy_X_lookAtGains.2.1 57 = .ok (.if_icmp .ne (24), 3) := by decide +kernel
theorem d_X_lookAtGains_60 : decode zy_X_lookAtGains.2.1 60 = .ok (.aload_n 0, 1) := by decide +kernel
theorem d_X_lookAtGains_61 : decode zy_X_lookAtGains.2.1 61 = .ok (.getfield 18, 3) := by decide +kernel
theorem d_X_lookAtGains_64 : decode zy_X_lookAtGains.2.1 64 = .ok (.iload_n 3, 1) := by decide +kernel
theorem d_X_lookAtGains_65 : decode zy_X_lookAtGains.2.1 65 = .ok (.aaload, 1) := by decide +kernel
theorem d_X_lookAtGains_66 : decode zy_X_lookAtGains.2.1 66 = .ok (.iload_n 2, 1) := by decide +kernel
theorem d_X_lookAtGains_67 : decode zy_X_lookAtGains.2.1 67 = .ok (.aload_n 0, 1) := by decide +kernel
theorem d_X_lookAtGains_68 : decode zy_X_lookAtGains.2.1 68 = .ok (.getfield 10, 3) := by decide +kernel
theorem d_X_lookAtGains_71 : decode zy_X_lookAtGains.2.1 71 = .ok (.invokevirtual 170, 3) := by decide +kernel
theorem d_X_lookAtGains_74 : decode zy_X_lookAtGains.2.1 74 = .ok (.ifCond .eq (7), 3) := by decide +kernel
theorem d_X_lookAtGains_77 : decode zy_X_lookAtGains.2.1 77 = .ok (.iconst 1, 1) := by decide +kernel
theorem d_X_lookAtGains_78 : decode zy_X_lookAtGains.2.1 78 = .ok (.goto (4), 3) := by decide +kernel
theorem d_X_lookAtGains_81 : decode zy_X_lookAtGains.2.1 81 = .ok (.iconst 0, 1) := by decide +kernel
theorem d_X_lookAtGains_82 : decode zy_X_lookAtGains.2.1 82 = .ok (.istore 4, 2) := by decide +kernel
theorem d_X_lookAtGains_84 : decode zy_X_lookAtGains.2.1 84 = .ok (.aload_n 0, 1) := by decide +kernel
theorem d_X_lookAtGains_85 : decode zy_X_lookAtGains.2.1 85 = .ok (.getfield 52, 3) := by decide +kernel
theorem d_X_lookAtGains_88 : decode zy_X_lookAtGains.2.1 88 = .ok (.getfield 362, 3) := by decide +kernel
theorem d_X_lookAtGains_91 : decode zy_X_lookAtGains.2.1 91 = .ok (.iload_n 2, 1) := by decide +kernel
theorem d_X_lookAtGains_92 : decode zy_X_lookAtGains.2.1 92 = .ok (.bipush 7, 2) := by decide +kernel
theorem d_X_lookAtGains_94 : decode zy_X_lookAtGains.2.1 94 = .ok (.imul, 1) := by decide +kernel
theorem d_X_lookAtGains_95 : decode zy_X_lookAtGains.2.1 95 = .ok (.iload_n 3, 1) := by decide +kernel
theorem d_X_lookAtGains_96 : decode zy_X_lookAtGains.2.1 96 = .ok (.iadd, 1) := by decide +kernel
theorem d_X_lookAtGains_97 : decode zy_X_lookAtGains.2.1 97 = .ok (.iload 4, 2) := by decide +kernel
theorem d_X_lookAtGains_99 : decode zy_X_lookAtGains.2.1 99 = .ok (.ifCond .eq (27), 3) := by decide +kernel
theorem d_X_lookAtGains_102 : decode zy_X_lookAtGains.2.1 102 = .ok (.aload_n 0, 1) := by decide +kernel
theorem d_X_lookAtGains_103 : decode zy_X_lookAtGains.2.1 103 = .ok (.aload_n 0, 1) := by decide +kernel
theorem d_X_lookAtGains_104 : decode zy_X_lookAtGains.2.1 104 = .ok (.getfield 18, 3) := by decide +kernel
theorem d_X_lookAtGains_107 : decode zy_X_lookAtGains.2.1 107 = .ok (.iload_n 3, 1) := by decide +kernel
theorem d_X_lookAtGains_108 : decode zy_X_lookAtGains.2.1 108 = .ok (.aaload, 1) := by decide +kernel
theorem d_X_lookAtGains_109 : decode zy_X_lookAtGains.2.1 109 = .ok (.iload_n 2, 1) := by decide +kernel
theorem d_X_lookAtGains_110 : decode zy_X_lookAtGains.2.1 110 = .ok (.invokevirtual 174, 3) := by decide +kernel
theorem d_X_lookAtGains_113 : decode zy_X_lookAtGains.2.1 113 = .ok (.aload_n 0, 1) := by decide +kernel
theorem d_X_lookAtGains_114 : decode zy_X_lookAtGains.2.1 114 = .ok (.getfield 10, 3) := by decide +kernel
theorem d_X_lookAtGains_117 : decode zy_X_lookAtGains.2.1 117 = .ok (.getfield 365, 3) := by decide +kernel
theorem d_X_lookAtGains_120 : decode zy_X_lookAtGains.2.1 120 = .ok (.iload_n 2, 1) := by decide +kernel
theorem d_X_lookAtGains_121 : decode zy_X_lookAtGains.2.1 121 = .ok (.iaload, 1) := by decide +kernel
theorem d_X_lookAtGains_122 : decode zy_X_lookAtGains.2.1 122 = .ok (.imul, 1) := by decide +kernel
theorem d_X_lookAtGains_123 : decode zy_X_lookAtGains.2.1 123 = .ok (.goto (4), 3) := by decide +kernel
theorem d_X_lookAtGains_126 : decode zy_X_lookAtGains.2.1 126 = .ok (.iconst (-1), 1) := by decide +kernel
theorem d_X_lookAtGains_127 : decode zy_X_lookAtGains.2.1 127 = .ok (.iastore, 1) := by decide +kernel
theorem d_X_lookAtGains_128 : decode zy_X_lookAtGains.2.1 128 = .ok (.iinc 3 1, 3) := by decide +kernel
theorem d_X_lookAtGains_131 : decode zy_X_lookAtGains.2.1 131 = .ok (.goto (-88), 3) := by decide +kernel
theorem d_X_lookAtGains_134 : decode zy_X_lookAtGains.2.1 134 = .ok (.iinc 2 1, 3) := by decide +kernel
theorem d_X_lookAtGains_137 : decode zy_X_lookAtGains.2.1 137 = .ok (.goto (-107), 3) := by decide +kernel
theorem d_X_lookAtGains_140 : decode zy_X_lookAtGains.2.1 140 = .ok (.return_, 1) := by decide +kernel
theorem d_X_lookWhoCan_0 : decode zy_X_lookWhoCan.2.1 0 = .ok (.aload_n 0, 1) := by decide +kernel
theorem d_X_lookWhoCan_1 : decode zy_X_lookWhoCan.2.1 1 = .ok (.getfield 45, 3) := by decide +kernel
theorem d_X_lookWhoCan_4 : decode zy_X_lookWhoCan.2.1 4 = .ok (.aload_n 0, 1) := by decide +kernel
theorem d_X_lookWhoCan_5 : decode zy_X_lookWhoCan.2.1 5 = .ok (.getfield 10, 3) := by decide +kernel
theorem d_X_lookWhoCan_8 : decode zy_X_lookWhoCan.2.1 8 = .ok (.getfield 298, 3) := by decide +kernel
theorem d_X_lookWhoCan_11 : decode zy_X_lookWhoCan.2.1 11 = .ok (.putfield 348, 3) := by decide +kernel
theorem d_X_lookWhoCan_14 : decode zy_X_lookWhoCan.2.1 14 = .ok (.iconst 0, 1) := by decide +kernel
theorem d_X_lookWhoCan_15 : decode zy_X_lookWhoCan.2.1 15 = .ok (.istore_n 1, 1) := by decide +kernel
theorem d_X_lookWhoCan_16 : decode zy_X_lookWhoCan.2.1 16 = .ok (.iload_n 1, 1) := by decide +kernel
theorem d_X_lookWhoCan_17 : decode zy_X_lookWhoCan.2.1 17 = .ok (.bipush 6, 2) := by decide +kernel
theorem d_X_lookWhoCan_19 : decode zy_X_lookWhoCan.2.1 19 = .ok (.if_icmp .ge (19), 3) := by decide +kernel
theorem d_X_lookWhoCan_22 : decode zy_X_lookWhoCan.2.1 22 = .ok (.aload_n 0, 1) := by decide +kernel
theorem d_X_lookWhoCan_23 : decode zy_X_lookWhoCan.2.1 23 = .ok (.getfield 45, 3) := by decide +kernel
theorem d_X_lookWhoCan_26 : decode zy_X_lookWhoCan.2.1 26 = .ok (.getfield 236, 3) := by decide +kernel
theorem d_X_lookWhoCan_29 : decode zy_X_lookWhoCan.2.1 29 = .ok (.iload_n 1, 1) := by decide +kernel
theorem d_X_lookWhoCan_30 : decode zy_X_lookWhoCan.2.1 30 = .ok (.iconst 0, 1) := by decide +kernel
theorem d_X_lookWhoCan_31 : decode zy_X_lookWhoCan.2.1 31 = .ok (.iastore, 1) := by decide +kernel
theorem d_X_lookWhoCan_32 : decode zy_X_lookWhoCan.2.1 32 = .ok (.iinc 1 1, 3) := by decide +kernel
theorem d_X_lookWhoCan_35 : decode zy_X_lookWhoCan.2.1 35 = .ok (.goto (-19), 3) := by decide +kernel
theorem d_X_lookWhoCan_38 : decode zy_X_lookWhoCan.2.1 38 = .ok (.iconst 0, 1) := by decide +kernel
theorem d_X_lookWhoCan_39 : decode zy_X_lookWhoCan.2.1 39 = .ok (.istore_n 1, 1) := by decide +kernel
theorem d_X_lookWhoCan_40 : decode zy_X_lookWhoCan.2.1 40 = .ok (.iload_n 1, 1) := by decide +kernel
theorem d_X_lookWhoCan_41 : decode zy_X_lookWhoCan.2.1 41 = .ok (.aload_n 0, 1) := by decide +kernel
theorem d_X_lookWhoCan_42 : decode zy_X_lookWhoCan.2.1 42 = .ok (.getfield 10, 3) := by decide +kernel
theorem d_X_lookWhoCan_45 : decode zy_X_lookWhoCan.2.1 45 = .ok (.getfield 254, 3) := by decide +kernel
theorem d_X_lookWhoCan_48 : decode zy_X_lookWhoCan.2.1 48 = .ok (.if_icmp .ge (57), 3) := by decide +kernel
theorem d_X_lookWhoCan_51 : decode zy_X_lookWhoCan.2.1 51 = .ok (.iconst 0, 1) := by decide +kernel
theorem d_X_lookWhoCan_52 : decode zy_X_lookWhoCan.2.1 52 = .ok (.istore_n 2, 1) := by decide +kernel
theorem d_X_lookWhoCan_53 : decode zy_X_lookWhoCan.2.1 53 = .ok (.iload_n 2, 1) := by decide +kernel
theorem d_X_lookWhoCan_54 : decode zy_X_lookWhoCan.2.1 54 = .ok (.aload_n 0, 1) := by decide +kernel
theorem d_X_lookWhoCan_55 : decode zy_X_lookWhoCan.2.1 55 = .ok (.getfield 22, 3) := by decide +kernel
theorem d_X_lookWhoCan_58 : decode zy_X_lookWhoCan.2.1 58 = .ok (.if_icmp .ge (41), 3) := by decide +kernel
theorem d_X_lookWhoCan_61 : decode zy_X_lookWhoCan.2.1 61 = .ok (.aload_n 0, 1) := by decide +kernel
theorem d_X_lookWhoCan_62 : decode zy_X_lookWhoCan.2.1 62 = .ok (.getfield 18, 3) := by decide +kernel
theorem d_X_lookWhoCan_65 : decode zy_X_lookWhoCan.2.1 65 = .ok (.iload_n 2, 1) := by decide +kernel
theorem d_X_lookWhoCan_66 : decode zy_X_lookWhoCan.2.1 66 = .ok (.aaload, 1) := by decide +kernel
theorem d_X_lookWhoCan_67 : decode zy_X_lookWhoCan.2.1 67 = .ok (.iload_n 1, 1) := by decide +kernel
theorem d_X_lookWhoCan_68 : decode zy_X_lookWhoCan.2.1 68 = .ok (.aload_n 0, 1) := by decide +kernel
theorem d_X_lookWhoCan_69 : decode zy_X_lookWhoCan.2.1 69 = .ok (.getfield 10, 3) := by decide +kernel
theorem d_X_lookWhoCan_72 : decode zy_X_lookWhoCan.2.1 72 = .ok (.invokevirtual 170, 3) := by decide +kernel
theorem d_X_lookWhoCan_75 : decode zy_X_lookWhoCan.2.1 75 = .ok (.ifCond .eq (18), 3) := by decide +kernel
theorem d_X_lookWhoCan_78 : decode zy_X_lookWhoCan.2.1 78 = .ok (.aload_n 0, 1) := by decide +kernel
theorem d_X_lookWhoCan_79 : decode zy_X_lookWhoCan.2.1 79 = .ok (.getfield 45, 3) := by decide +kernel
theorem d_X_lookWhoCan_82 : decode zy_X_lookWhoCan.2.1 82 = .ok (.getfield 236, 3) := by decide +kernel
theorem d_X_lookWhoCan_85 : decode zy_X_lookWhoCan.2.1 85 = .ok (.iload_n 1, 1) := by decide +kernel
theorem d_X_lookWhoCan_86 : decode zy_X_lookWhoCan.2.1 86 = .ok (.dup2, 1) := by decide +kernel
theorem d_X_lookWhoCan_87 : decode zy_X_lookWhoCan.2.1 87 = .ok (.iaload, 1) := by decide +kernel
theorem d_X_lookWhoCan_88 : decode zy_X_lookWhoCan.2.1 88 = .ok (.iconst 1, 1) := by decide +kernel
theorem d_X_lookWhoCan_89 : decode zy_X_lookWhoCan.2.1 89 = .ok (.iload_n 2, 1) := by decide +kernel
theorem d_X_lookWhoCan_90 : decode zy_X_lookWhoCan.2.1 90 = .ok (.ishl, 1) := by decide +kernel
theorem d_X_lookWhoCan_91 : decode zy_X_lookWhoCan.2.1 91 = .ok (.ior, 1) := by decide +kernel
theorem d_X_lookWhoCan_92 : decode zy_X_lookWhoCan.2.1 92 = .ok (.iastore, 1) := by decide +kernel
theorem d_X_lookWhoCan_93 : decode zy_X_lookWhoCan.2.1 93 = .ok (.iinc 2 1, 3) := by decide +kernel
theorem d_X_lookWhoCan_96 : decode zy_X_lookWhoCan.2.1 96 = .ok (.goto (-43), 3) := by decide +kernel
theorem d_X_lookWhoCan_99 : decode zy_X_lookWhoCan.2.1 99 = .ok (.iinc 1 1, 3) := by decide +kernel
theorem d_X_lookWhoCan_102 : decode zy_X_lookWhoCan.2.1 102 = .ok (.goto (-62), 3) := by decide +kernel
theorem d_X_lookWhoCan_105 : decode zy_X_lookWhoCan.2.1 105 = .ok (.aload_n 0, 1) := by decide +kernel
theorem d_X_lookWhoCan_106 : decode zy_X_lookWhoCan.2.1 106 = .ok (.getfield 45, 3) := by decide +kernel
theorem d_X_lookWhoCan_109 : decode zy_X_lookWhoCan.2.1 109 = .ok (.invokevirtual 239, 3) := by decide +kernel
theorem d_X_lookWhoCan_112 : decode zy_X_lookWhoCan.2.1 112 = .ok (.return_, 1) := by decide +kernel
theorem d_X_offerLessons_0 : decode zy_X_offerLessons.2.1 0 = .ok (.iconst 0, 1) := by decide +kernel
theorem d_X_offerLessons_1 : decode zy_X_offerLessons.2.1 1 = .ok (.istore_n 1, 1) := by decide +kernel
theorem d_X_offerLessons_2 : decode zy_X_offerLessons.2.1 2 = .ok (.iload_n 1, 1) := by decide +kernel
theorem d_X_offerLessons_3 : decode zy_X_offerLessons.2.1 3 = .ok (.aload_n 0, 1) := by decide +kernel
theorem d_X_offerLessons_4 : decode zy_X_offerLessons.2.1 4 = .ok (.getfield 22, 3) := by decide +kernel
theorem d_X_offerLessons_7 : decode zy_X_offerLessons.2.1 7 = .ok (.if_icmp .ge (91), 3) := by decide +kernel
theorem d_X_offerLessons_10 : decode zy_X_offerLessons.2.1 10 = .ok (.iconst 0, 1) := by decide +kernel
theorem d_X_offerLessons_11 : decode zy_X_offerLessons.2.1 11 = .ok (.istore_n 2, 1) := by decide +kernel
theorem d_X_offerLessons_12 : decode zy_X_offerLessons.2.1 12 = .ok (.iload_n 2, 1) := by decide +kernel
theorem d_X_offerLessons_13 : decode zy_X_offerLessons.2.1 13 = .ok (.aload_n 0, 1) := by decide +kernel
theorem d_X_offerLessons_14 : decode zy_X_offerLessons.2.1 14 = .ok (.getfield 10, 3) := by decide +kernel
theorem d_X_offerLessons_17 : decode zy_X_offerLessons.2.1 17 = .ok (.getfield 254, 3) := by decide +kernel
theorem d_X_offerLessons_20 : decode zy_X_offerLessons.2.1 20 = .ok (.if_icmp .ge (72), 3) := by decide +kernel
theorem d_X_offerLessons_23 : decode zy_X_offerLessons.2.1 23 = .ok (.aload_n 0, 1) := by decide +kernel
theorem d_X_offerLessons_24 : decode zy_X_offerLessons.2.1 24 = .ok (.getfield 18, 3) := by decide +kernel
theorem d_X_offerLessons_27 : decode zy_X_offerLessons.2.1 27 = .ok (.iload_n 1, 1) := by decide +kernel
theorem d_X_offerLessons_28 : decode zy_X_offerLessons.2.1 28 = .ok (.aaload, 1) := by decide +kernel
theorem d_X_offerLessons_29 : decode zy_X_offerLessons.2.1 29 = .ok (.iload_n 2, 1) := by decide +kernel
theorem d_X_offerLessons_30 : decode zy_X_offerLessons.2.1 30 = .ok (.invokevirtual 135, 3) := by decide +kernel
theorem d_X_offerLessons_33 : decode zy_X_offerLessons.2.1 33 = .ok (.ifCond .ne (53), 3) := by decide +kernel
theorem d_X_offerLessons_36 : decode zy_X_offerLessons.2.1 36 = .ok (.aload_n 0, 1) := by decide +kernel
theorem d_X_offerLessons_37 : decode zy_X_offerLessons.2.1 37 = .ok (.getfield 18, 3) := by decide +kernel
theorem d_X_offerLessons_40 : decode zy_X_offerLessons.2.1 40 = .ok (.iload_n 1, 1) := by decide +kernel
theorem d_X_offerLessons_41 : decode zy_X_offerLessons.2.1 41 = .ok (.aaload, 1) := by decide +kernel
theorem d_X_offerLessons_42 : decode zy_X_offerLessons.2.1 42 = .ok (.iload_n 2, 1) := by decide +kernel
theorem d_X_offerLessons_43 : decode zy_X_offerLessons.2.1 43 = .ok (.aload_n 0, 1) := by decide +kernel
theorem d_X_offerLessons_44 : decode zy_X_offerLessons.2.1 44 = .ok (.getfield 10, 3) := by decide +kernel
theorem d_X_offerLessons_47 : decode zy_X_offerLessons.2.1 47 = .ok (.invokevirtual 170, 3) := by decide +kernel
theorem d_X_offerLessons_50 : decode zy_X_offerLessons.2.1 50 = .ok (.ifCond .ne (36), 3) := by decide +kernel
theorem d_X_offerLessons_53 : decode zy_X_offerLessons.2.1 53 = .ok (.aload_n 0, 1) := by decide +kernel
theorem d_X_offerLessons_54 : decode zy_X_offerLessons.2.1 54 = .ok (.getfield 59, 3) := by decide +kernel
theorem d_X_offerLessons_57 : decode zy_X_offerLessons.2.1 57 = .ok (.bipush 10, 2) := by decide +kernel
theorem d_X_offerLessons_59 : decode zy_X_offerLessons.2.1 59 = .ok (.iload_n 1, 1) := by decide +kernel
theorem d_X_offerLessons_60 : decode zy_X_offerLessons.2.1 60 = .ok (.imul, 1) := by decide +kernel
theorem d_X_offerLessons_61 : decode zy_X_offerLessons.2.1 61 = .ok (.iload_n 2, 1) := by decide +kernel
theorem d_X_offerLessons_62 : decode zy_X_offerLessons.2.1 62 = .ok (.iadd, 1) := by decide +kernel
theorem d_X_offerLessons_63 : decode zy_X_offerLessons.2.1 63 = .ok (.aload_n 0, 1) := by decide +kernel
theorem d_X_offerLessons_64 : decode zy_X_offerLessons.2.1 64 = .ok (.aload_n 0, 1) := by decide +kernel
theorem d_X_offerLessons_65 : decode zy_X_offerLessons.2.1 65 = .ok (.getfield 18, 3) := by decide +kernel
theorem d_X_offerLessons_68 : decode zy_X_offerLessons.2.1 68 = .ok (.iload_n 1, 1) := by decide +kernel
theorem d_X_offerLessons_69 : decode zy_X_offerLessons.2.1 69 = .ok (.aaload, 1) := by decide +kernel
theorem d_X_offerLessons_70 : decode zy_X_offerLessons.2.1 70 = .ok (.iload_n 2, 1) := by decide +kernel
theorem d_X_offerLessons_71 : decode zy_X_offerLessons.2.1 71 = .ok (.invokevirtual 178, 3) := by decide +kernel
theorem d_X_offerLessons_74 : decode zy_X_offerLessons.2.1 74 = .ok (.aload_n 0, 1) := by decide +kernel
theorem d_X_offerLessons_75 : decode zy_X_offerLessons.2.1 75 = .ok (.getfield 45, 3) := by decide +kernel
theorem d_X_offerLessons_78 : decode zy_X_offerLessons.2.1 78 = .ok (.iload_n 1, 1) := by decide +kernel
theorem d_X_offerLessons_79 : decode zy_X_offerLessons.2.1 79 = .ok (.iload_n 2, 1) := by decide +kernel
theorem d_X_offerLessons_80 : decode zy_X_offerLessons.2.1 80 = .ok (.invokevirtual 371, 3) := by decide +kernel
theorem d_X_offerLessons_83 : decode zy_X_offerLessons.2.1 83 = .ok (.invokevirtual 374, 3) := by decide +kernel
theorem d_X_offerLessons_86 : decode zy_X_offerLessons.2.1 86 = .ok (.iinc 2 1, 3) := by decide +kernel
theorem d_X_offerLessons_89 : decode zy_X_offerLessons.2.1 89 = .ok (.goto (-77), 3) := by decide +kernel
theorem d_X_offerLessons_92 : decode zy_X_offerLessons.2.1 92 = .ok (.iinc 1 1, 3) := by decide +kernel
theorem d_X_offerLessons_95 : decode zy_X_offerLessons.2.1 95 = .ok (.goto (-93), 3) := by decide +kernel
theorem d_X_offerLessons_98 : decode zy_X_offerLessons.2.1 98 = .ok (.return_, 1) := by decide +kernel
theorem d_X_wrongAt_0 : decode zy_X_wrongAt.2.1 0 = .ok (.iload_n 2, 1) := by decide +kernel
theorem d_X_wrongAt_1 : decode zy_X_wrongAt.2.1 1 = .ok (.iconst (-1), 1) := by decide +kernel
theorem d_X_wrongAt_2 : decode zy_X_wrongAt.2.1 2 = .ok (.if_icmp .ne (23), 3) := by decide +kernel
theorem d_X_wrongAt_5 : decode zy_X_wrongAt.2.1 5 = .ok (.aload_n 0, 1) := by decide +kernel
theorem d_X_wrongAt_6 : decode zy_X_wrongAt.2.1 6 = .ok (.getfield 10, 3) := by decide +kernel
theorem d_X_wrongAt_9 : decode zy_X_wrongAt.2.1 9 = .ok (.iload_n 1, 1) := by decide +kernel
theorem d_X_wrongAt_10 : decode zy_X_wrongAt.2.1 10 = .ok (.invokevirtual 378, 3) := by decide +kernel
theorem d_X_wrongAt_13 : decode zy_X_wrongAt.2.1 13 = .ok (.ifCond .eq (10), 3) := by decide +kernel
theorem d_X_wrongAt_16 : decode zy_X_wrongAt.2.1 16 = .ok (.bipush 30, 2) := by decide +kernel
theorem d_X_wrongAt_18 : decode zy_X_wrongAt.2.1 18 = .ok (.iload_n 1, 1) := by decide +kernel
theorem d_X_wrongAt_19 : decode zy_X_wrongAt.2.1 19 = .ok (.iadd, 1) := by decide +kernel
theorem d_X_wrongAt_20 : decode zy_X_wrongAt.2.1 20 = .ok (.goto (4), 3) := by decide +kernel
theorem d_X_wrongAt_23 : decode zy_X_wrongAt.2.1 23 = .ok (.iconst (-1), 1) := by decide +kernel
theorem d_X_wrongAt_24 : decode zy_X_wrongAt.2.1 24 = .ok (.ireturn, 1) := by decide +kernel
theorem d_X_wrongAt_25 : decode zy_X_wrongAt.2.1 25 = .ok (.aload_n 0, 1) := by decide +kernel
theorem d_X_wrongAt_26 : decode zy_X_wrongAt.2.1 26 = .ok (.iload_n 2, 1) := by decide +kernel
theorem d_X_wrongAt_27 : decode zy_X_wrongAt.2.1 27 = .ok (.invokevirtual 129, 3) := by decide +kernel
theorem d_X_wrongAt_30 : decode zy_X_wrongAt.2.1 30 = .ok (.ifCond .eq (11), 3) := by decide +kernel
theorem d_X_wrongAt_33 : decode zy_X_wrongAt.2.1 33 = .ok (.iload_n 3, 1) := by decide +kernel
theorem d_X_wrongAt_34 : decode zy_X_wrongAt.2.1 34 = .ok (.iload_n 2, 1) := by decide +kernel
theorem d_X_wrongAt_35 : decode zy_X_wrongAt.2.1 35 = .ok (.ishr, 1) := by decide +kernel
theorem d_X_wrongAt_36 : decode zy_X_wrongAt.2.1 36 = .ok (.iconst 1, 1) := by decide +kernel
theorem d_X_wrongAt_37 : decode zy_X_wrongAt.2.1 37 = .ok (.iand, 1) := by decide +kernel
theorem d_X_wrongAt_38 : decode zy_X_wrongAt.2.1 38 = .ok (.ifCond .ne (8), 3) := by decide +kernel
theorem d_X_wrongAt_41 : decode zy_X_wrongAt.2.1 41 = .ok (.bipush 10, 2) := by decide +kernel
theorem d_X_wrongAt_43 : decode zy_X_wrongAt.2.1 43 = .ok (.iload_n 1, 1) := by decide +kernel
theorem d_X_wrongAt_44 : decode zy_X_wrongAt.2.1 44 = .ok (.iadd, 1) := by decide +kernel
theorem d_X_wrongAt_45 : decode zy_X_wrongAt.2.1 45 = .ok (.ireturn, 1) := by decide +kernel
theorem d_X_wrongAt_46 : decode zy_X_wrongAt.2.1 46 = .ok (.aload_n 0, 1) := by decide +kernel
theorem d_X_wrongAt_47 : decode zy_X_wrongAt.2.1 47 = .ok (.getfield 18, 3) := by decide +kernel
theorem d_X_wrongAt_50 : decode zy_X_wrongAt.2.1 50 = .ok (.iload_n 2, 1) := by decide +kernel
theorem d_X_wrongAt_51 : decode zy_X_wrongAt.2.1 51 = .ok (.aaload, 1) := by decide +kernel
theorem d_X_wrongAt_52 : decode zy_X_wrongAt.2.1 52 = .ok (.iload_n 1, 1) := by decide +kernel
theorem d_X_wrongAt_53 : decode zy_X_wrongAt.2.1 53 = .ok (.aload_n 0, 1) := by decide +kernel
theorem d_X_wrongAt_54 : decode zy_X_wrongAt.2.1 54 = .ok (.getfield 10, 3) := by decide +kernel
theorem d_X_wrongAt_57 : decode zy_X_wrongAt.2.1 57 = .ok (.invokevirtual 170, 3) := by decide +kernel
theorem d_X_wrongAt_60 : decode zy_X_wrongAt.2.1 60 = .ok (.ifCond .eq (7), 3) := by decide +kernel
theorem d_X_wrongAt_63 : decode zy_X_wrongAt.2.1 63 = .ok (.iconst (-1), 1) := by decide +kernel
theorem d_X_wrongAt_64 : decode zy_X_wrongAt.2.1 64 = .ok (.goto (7), 3) := by decide +kernel
theorem d_X_wrongAt_67 : decode zy_X_wrongAt.2.1 67 = .ok (.bipush 20, 2) := by decide +kernel
theorem d_X_wrongAt_69 : decode zy_X_wrongAt.2.1 69 = .ok (.iload_n 1, 1) := by decide +kernel
theorem d_X_wrongAt_70 : decode zy_X_wrongAt.2.1 70 = .ok (.iadd, 1) := by decide +kernel
theorem d_X_wrongAt_71 : decode zy_X_wrongAt.2.1 71 = .ok (.ireturn, 1) := by decide +kernel
theorem d_Person_counts_0 : decode zy_Person_counts.2.1 0 = .ok (.iconst 0, 1) := by decide +kernel
theorem d_Person_counts_1 : decode zy_Person_counts.2.1 1 = .ok (.istore_n 2, 1) := by decide +kernel
theorem d_Person_counts_2 : decode zy_Person_counts.2.1 2 = .ok (.iconst 0, 1) := by decide +kernel
theorem d_Person_counts_3 : decode zy_Person_counts.2.1 3 = .ok (.istore_n 3, 1) := by decide +kernel
theorem d_Person_counts_4 : decode zy_Person_counts.2.1 4 = .ok (.iload_n 3, 1) := by decide +kernel
theorem d_Person_counts_5 : decode zy_Person_counts.2.1 5 = .ok (.aload_n 1, 1) := by decide +kernel
theorem d_Person_counts_6 : decode zy_Person_counts.2.1 6 = .ok (.getfield 84, 3) := by decide +kernel
theorem d_Person_counts_9 : decode zy_Person_counts.2.1 9 = .ok (.if_icmp .ge (21), 3) := by decide +kernel
theorem d_Person_counts_12 : decode zy_Person_counts.2.1 12 = .ok (.aload_n 0, 1) := by decide +kernel
theorem d_Person_counts_13 : decode zy_Person_counts.2.1 13 = .ok (.iload_n 3, 1) := by decide +kernel
theorem d_Person_counts_14 : decode zy_Person_counts.2.1 14 = .ok (.aload_n 1, 1) := by decide +kernel
theorem d_Person_counts_15 : decode zy_Person_counts.2.1 15 = .ok (.invokevirtual 87, 3) := by decide +kernel
theorem d_Person_counts_18 : decode zy_Person_counts.2.1 18 = .ok (.ifCond .eq (6), 3) := by decide +kernel
theorem d_Person_counts_21 : decode zy_Person_counts.2.1 21 = .ok (.iinc 2 1, 3) := by decide +kernel
theorem d_Person_counts_24 : decode zy_Person_counts.2.1 24 = .ok (.iinc 3 1, 3) := by decide +kernel
theorem d_Person_counts_27 : decode zy_Person_counts.2.1 27 = .ok (.goto (-23), 3) := by decide +kernel
theorem d_Person_counts_30 : decode zy_Person_counts.2.1 30 = .ok (.aload_n 0, 1) := by decide +kernel
theorem d_Person_counts_31 : decode zy_Person_counts.2.1 31 = .ok (.getfield 9, 3) := by decide +kernel
theorem d_Person_counts_34 : decode zy_Person_counts.2.1 34 = .ok (.tableswitch (58) (1) (5) #[34, 58, 40, 48, 52], 34) := by decide +kernel
theorem d_Person_counts_68 : decode zy_Person_counts.2.1 68 = .ok (.iload_n 2, 1) := by decide +kernel
theorem d_Person_counts_69 : decode zy_Person_counts.2.1 69 = .ok (.iconst 3, 1) := by decide +kernel
theorem d_Person_counts_70 : decode zy_Person_counts.2.1 70 = .ok (.invokestatic 91, 3) := by decide +kernel
theorem d_Person_counts_73 : decode zy_Person_counts.2.1 73 = .ok (.ireturn, 1) := by decide +kernel
theorem d_Person_counts_74 : decode zy_Person_counts.2.1 74 = .ok (.iload_n 2, 1) := by decide +kernel
theorem d_Person_counts_75 : decode zy_Person_counts.2.1 75 = .ok (.iconst 3, 1) := by decide +kernel
theorem d_Person_counts_76 : decode zy_Person_counts.2.1 76 = .ok (.invokestatic 91, 3) := by decide +kernel
theorem d_Person_counts_79 : decode zy_Person_counts.2.1 79 = .ok (.iconst 1, 1) := by decide +kernel
theorem d_Person_counts_80 : decode zy_Person_counts.2.1 80 = .ok (.iadd, 1) := by decide +kernel
theorem d_Person_counts_81 : decode zy_Person_counts.2.1 81 = .ok (.ireturn, 1) := by decide +kernel
theorem d_Person_counts_82 : decode zy_Person_counts.2.1 82 = .ok (.iconst 2, 1) := by decide +kernel
theorem d_Person_counts_83 : decode zy_Person_counts.2.1 83 = .ok (.iload_n 2, 1) := by decide +kernel
theorem d_Person_counts_84 : decode zy_Person_counts.2.1 84 = .ok (.imul, 1) := by decide +kernel
theorem d_Person_counts_85 : decode zy_Person_counts.2.1 85 = .ok (.ireturn, 1) := by decide +kernel
theorem d_Person_counts_86 : decode zy_Person_counts.2.1 86 = .ok (.iload_n 2, 1) := by decide +kernel
theorem d_Person_counts_87 : decode zy_Person_counts.2.1 87 = .ok (.iconst 1, 1) := by decide +kernel
theorem d_Person_counts_88 : decode zy_Person_counts.2.1 88 = .ok (.iadd, 1) := by decide +kernel
theorem d_Person_counts_89 : decode zy_Person_counts.2.1 89 = .ok (.iconst 2, 1) := by decide +kernel
theorem d_Person_counts_90 : decode zy_Person_counts.2.1 90 = .ok (.idiv, 1) := by decide +kernel
theorem d_Person_counts_91 : decode zy_Person_counts.2.1 91 = .ok (.ireturn, 1) := by decide +kernel
theorem d_Person_counts_92 : decode zy_Person_counts.2.1 92 = .ok (.iload_n 2, 1) := by decide +kernel
theorem d_Person_counts_93 : decode zy_Person_counts.2.1 93 = .ok (.ireturn, 1) := by decide +kernel
theorem d_M_not_0 : decode zy_M_not.2.1 0 = .ok (.aload_n 0, 1) := by decide +kernel
theorem d_M_not_1 : decode zy_M_not.2.1 1 = .ok (.iconst 5, 1) := by decide +kernel
theorem d_M_not_2 : decode zy_M_not.2.1 2 = .ok (.invokevirtual 241, 3) := by decide +kernel
theorem d_M_not_5 : decode zy_M_not.2.1 5 = .ok (.ifCond .eq (31), 3) := by decide +kernel
theorem d_M_not_8 : decode zy_M_not.2.1 8 = .ok (.aload_n 0, 1) := by decide +kernel
theorem d_M_not_9 : decode zy_M_not.2.1 9 = .ok (.invokevirtual 228, 3) := by decide +kernel
theorem d_M_not_12 : decode zy_M_not.2.1 12 = .ok (.ifCond .eq (23), 3) := by decide +kernel
theorem d_M_not_15 : decode zy_M_not.2.1 15 = .ok (.aload_n 0, 1) := by decide +kernel
theorem d_M_not_16 : decode zy_M_not.2.1 16 = .ok (.invokevirtual 244, 3) := by decide +kernel
theorem d_M_not_19 : decode zy_M_not.2.1 19 = .ok (.aload_n 0, 1) := by decide +kernel
theorem d_M_not_20 : decode zy_M_not.2.1 20 = .ok (.bipush (-101), 2) := by decide +kernel
theorem d_M_not_22 : decode zy_M_not.2.1 22 = .ok (.invokevirtual 221, 3) := by decide +kernel
theorem d_M_not_25 : decode zy_M_not.2.1 25 = .ok (.aload_n 0, 1) := by decide +kernel
theorem d_M_not_26 : decode zy_M_not.2.1 26 = .ok (.dup, 1) := by decide +kernel
theorem d_M_not_27 : decode zy_M_not.2.1 27 = .ok (.getfield 212, 3) := by decide +kernel
theorem d_M_not_30 : decode zy_M_not.2.1 30 = .ok (.iconst 1, 1) := by decide +kernel
theorem d_M_not_31 : decode zy_M_not.2.1 31 = .ok (.isub, 1) := by decide +kernel
theorem d_M_not_32 : decode zy_M_not.2.1 32 = .ok (.putfield 212, 3) := by decide +kernel
theorem d_M_not_35 : decode zy_M_not.2.1 35 = .ok (.return_, 1) := by decide +kernel
theorem d_M_not_36 : decode zy_M_not.2.1 36 = .ok (.aload_n 0, 1) := by decide +kernel
theorem d_M_not_37 : decode zy_M_not.2.1 37 = .ok (.invokevirtual 247, 3) := by decide +kernel
theorem d_M_not_40 : decode zy_M_not.2.1 40 = .ok (.aload_n 0, 1) := by decide +kernel
theorem d_M_not_41 : decode zy_M_not.2.1 41 = .ok (.bipush 60, 2) := by decide +kernel
theorem d_M_not_43 : decode zy_M_not.2.1 43 = .ok (.invokevirtual 225, 3) := by decide +kernel
theorem d_M_not_46 : decode zy_M_not.2.1 46 = .ok (.ifCond .ne (12), 3) := by decide +kernel
theorem d_M_not_49 : decode zy_M_not.2.1 49 = .ok (.aload_n 0, 1) := by decide +kernel
theorem d_M_not_50 : decode zy_M_not.2.1 50 = .ok (.bipush 61, 2) := by decide +kernel
theorem d_M_not_52 : decode zy_M_not.2.1 52 = .ok (.invokevirtual 225, 3) := by decide +kernel
theorem d_M_not_55 : decode zy_M_not.2.1 55 = .ok (.ifCond .eq (24), 3) := by decide +kernel
theorem d_M_not_58 : decode zy_M_not.2.1 58 = .ok (.aload_n 0, 1) := by decide +kernel
theorem d_M_not_59 : decode zy_M_not.2.1 59 = .ok (.getfield 193, 3) := by decide +kernel
theorem d_M_not_62 : decode zy_M_not.2.1 62 = .ok (.istore_n 1, 1) := by decide +kernel
theorem d_M_not_63 : decode zy_M_not.2.1 63 = .ok (.aload_n 0, 1) := by decide +kernel
theorem d_M_not_64 : decode zy_M_not.2.1 64 = .ok (.invokevirtual 218, 3) := by decide +kernel
theorem d_M_not_67 : decode zy_M_not.2.1 67 = .ok (.aload_n 0, 1) := by decide +kernel
theorem d_M_not_68 : decode zy_M_not.2.1 68 = .ok (.invokevirtual 247, 3) := by decide +kernel
theorem d_M_not_71 : decode zy_M_not.2.1 71 = .ok (.aload_n 0, 1) := by decide +kernel
theorem d_M_not_72 : decode zy_M_not.2.1 72 = .ok (.bipush (-100), 2) := by decide +kernel
theorem d_M_not_74 : decode zy_M_not.2.1 74 = .ok (.iload_n 1, 1) := by decide +kernel
theorem d_M_not_75 : decode zy_M_not.2.1 75 = .ok (.isub, 1) := by decide +kernel
theorem d_M_not_76 : decode zy_M_not.2.1 76 = .ok (.invokevirtual 221, 3) := by decide +kernel
theorem d_M_not_79 : decode zy_M_not.2.1 79 = .ok (.return_, 1) := by decide +kernel
theorem d_M_one_0 : decode zy_M_one.2.1 0 = .ok (.aload_n 0, 1) := by decide +kernel
theorem d_M_one_1 : decode zy_M_one.2.1 1 = .ok (.getfield 202, 3) := by decide +kernel
theorem d_M_one_4 : decode zy_M_one.2.1 4 = .ok (.ifCond .eq (4), 3) := by decide +kernel
theorem d_M_one_7 : decode zy_M_one.2.1 7 = .ok (.return_, 1) := by decide +kernel
theorem d_M_one_8 : decode zy_M_one.2.1 8 = .ok (.aload_n 0, 1) := by decide +kernel
theorem d_M_one_9 : decode zy_M_one.2.1 9 = .ok (.getfield 183, 3) := by decide +kernel
theorem d_M_one_12 : decode zy_M_one.2.1 12 = .ok (.iconst 1, 1) := by decide +kernel
theorem d_M_one_13 : decode zy_M_one.2.1 13 = .ok (.if_icmp .eq (11), 3) := by decide +kernel
theorem d_M_one_16 : decode zy_M_one.2.1 16 = .ok (.aload_n 0, 1) := by decide +kernel
theorem d_M_one_17 : decode zy_M_one.2.1 17 = .ok (.getfield 183, 3) := by decide +kernel
theorem d_M_one_20 : decode zy_M_one.2.1 20 = .ok (.iconst 2, 1) := by decide +kernel
theorem d_M_one_21 : decode zy_M_one.2.1 21 = .ok (.if_icmp .ne (33), 3) := by decide +kernel
theorem d_M_one_24 : decode zy_M_one.2.1 24 = .ok (.aload_n 0, 1) := by decide +kernel
theorem d_M_one_25 : decode zy_M_one.2.1 25 = .ok (.aload_n 0, 1) := by decide +kernel
theorem d_M_one_26 : decode zy_M_one.2.1 26 = .ok (.getfield 183, 3) := by decide +kernel
theorem d_M_one_29 : decode zy_M_one.2.1 29 = .ok (.iconst 1, 1) := by decide +kernel
theorem d_M_one_30 : decode zy_M_one.2.1 30 = .ok (.if_icmp .ne (10), 3) := by decide +kernel
theorem d_M_one_33 : decode zy_M_one.2.1 33 = .ok (.aload_n 0, 1) := by decide +kernel
theorem d_M_one_34 : decode zy_M_one.2.1 34 = .ok (.getfield 193, 3) := by decide +kernel
theorem d_M_one_37 : decode zy_M_one.2.1 37 = .ok (.goto (9), 3) := by decide +kernel
theorem d_M_one_40 : decode zy_M_one.2.1 40 = .ok (.iconst (-1), 1) := by decide +kernel
theorem d_M_one_41 : decode zy_M_one.2.1 41 = .ok (.aload_n 0, 1) := by decide +kernel
theorem d_M_one_42 : decode zy_M_one.2.1 42 = .ok (.getfield 193, 3) := by decide +kernel
theorem d_M_one_45 : decode zy_M_one.2.1 45 = .ok (.isub, 1) := by decide +kernel
theorem d_M_one_46 : decode zy_M_one.2.1 46 = .ok (.invokevirtual 221, 3) := by decide +kernel
theorem d_M_one_49 : decode zy_M_one.2.1 49 = .ok (.aload_n 0, 1) := by decide +kernel
theorem d_M_one_50 : decode zy_M_one.2.1 50 = .ok (.invokevirtual 218, 3) := by decide +kernel
theorem d_M_one_53 : decode zy_M_one.2.1 53 = .ok (.return_, 1) := by decide +kernel
theorem d_M_one_54 : decode zy_M_one.2.1 54 = .ok (.aload_n 0, 1) := by decide +kernel
theorem d_M_one_55 : decode zy_M_one.2.1 55 = .ok (.bipush 45, 2) := by decide +kernel
theorem d_M_one_57 : decode zy_M_one.2.1 57 = .ok (.invokevirtual 225, 3) := by decide +kernel
theorem d_M_one_60 : decode zy_M_one.2.1 60 = .ok (.istore_n 1, 1) := by decide +kernel
theorem d_M_one_61 : decode zy_M_one.2.1 61 = .ok (.iload_n 1, 1) := by decide +kernel
theorem d_M_one_62 : decode zy_M_one.2.1 62 = .ok (.ifCond .ne (17), 3) := by decide +kernel
theorem d_M_one_65 : decode zy_M_one.2.1 65 = .ok (.aload_n 0, 1) := by decide +kernel
theorem d_M_one_66 : decode zy_M_one.2.1 66 = .ok (.bipush 40, 2) := by decide +kernel
theorem d_M_one_68 : decode zy_M_one.2.1 68 = .ok (.invokevirtual 225, 3) := by decide +kernel
theorem d_M_one_71 : decode zy_M_one.2.1 71 = .ok (.ifCond .ne (8), 3) := by decide +kernel
theorem d_M_one_74 : decode zy_M_one.2.1 74 = .ok (.aload_n 0, 1) := by decide +kernel
theorem d_M_one_75 : decode zy_M_one.2.1 75 = .ok (.invokevirtual 215, 3) := by decide +kernel
theorem d_M_one_78 : decode zy_M_one.2.1 78 = .ok (.return_, 1) := by decide +kernel
theorem d_M_one_79 : decode zy_M_one.2.1 79 = .ok (.aload_n 0, 1) := by decide +kernel
theorem d_M_one_80 : decode zy_M_one.2.1 80 = .ok (.invokevirtual 228, 3) := by decide +kernel
theorem d_M_one_83 : decode zy_M_one.2.1 83 = .ok (.ifCond .ne (4), 3) := by decide +kernel
theorem d_M_one_86 : decode zy_M_one.2.1 86 = .ok (.return_, 1) := by decide +kernel
theorem d_M_one_87 : decode zy_M_one.2.1 87 = .ok (.iload_n 1, 1) := by decide +kernel
theorem d_M_one_88 : decode zy_M_one.2.1 88 = .ok (.ifCond .eq (24), 3) := by decide +kernel
theorem d_M_one_91 : decode zy_M_one.2.1 91 = .ok (.aload_n 0, 1) := by decide +kernel
theorem d_M_one_92 : decode zy_M_one.2.1 92 = .ok (.invokevirtual 232, 3) := by decide +kernel
theorem d_M_one_95 : decode zy_M_one.2.1 95 = .ok (.aload_n 0, 1) := by decide +kernel
theorem d_M_one_96 : decode zy_M_one.2.1 96 = .ok (.bipush (-100), 2) := by decide +kernel
theorem d_M_one_98 : decode zy_M_one.2.1 98 = .ok (.invokevirtual 221, 3) := by decide +kernel
theorem d_M_one_101 : decode zy_M_one.2.1 101 = .ok (.aload_n 0, 1) := by decide +kernel
theorem d_M_one_102 : decode zy_M_one.2.1 102 = .ok (.dup, 1) := by decide +kernel
theorem d_M_one_103 : decode zy_M_one.2.1 103 = .ok (.getfield 212, 3) := by decide +kernel
theorem d_M_one_106 : decode zy_M_one.2.1 106 = .ok (.iconst 1, 1) := by decide +kernel
theorem d_M_one_107 : decode zy_M_one.2.1 107 = .ok (.isub, 1) := by decide +kernel
theorem d_M_one_108 : decode zy_M_one.2.1 108 = .ok (.putfield 212, 3) := by decide +kernel
theorem d_M_one_111 : decode zy_M_one.2.1 111 = .ok (.return_, 1) := by decide +kernel
theorem d_M_one_112 : decode zy_M_one.2.1 112 = .ok (.aload_n 0, 1) := by decide +kernel
theorem d_M_one_113 : decode zy_M_one.2.1 113 = .ok (.invokevirtual 235, 3) := by decide +kernel
theorem d_M_one_116 : decode zy_M_one.2.1 116 = .ok (.aload_n 0, 1) := by decide +kernel
theorem d_M_one_117 : decode zy_M_one.2.1 117 = .ok (.bipush 41, 2) := by decide +kernel
theorem d_M_one_119 : decode zy_M_one.2.1 119 = .ok (.invokevirtual 225, 3) := by decide +kernel
theorem d_M_one_122 : decode zy_M_one.2.1 122 = .ok (.ifCond .ne (8), 3) := by decide +kernel
theorem d_M_one_125 : decode zy_M_one.2.1 125 = .ok (.aload_n 0, 1) := by decide +kernel
theorem d_M_one_126 : decode zy_M_one.2.1 126 = .ok (.invokevirtual 215, 3) := by decide +kernel
theorem d_M_one_129 : decode zy_M_one.2.1 129 = .ok (.return_, 1) := by decide +kernel
theorem d_M_one_130 : decode zy_M_one.2.1 130 = .ok (.aload_n 0, 1) := by decide +kernel
theorem d_M_one_131 : decode zy_M_one.2.1 131 = .ok (.dup, 1) := by decide +kernel
theorem d_M_one_132 : decode zy_M_one.2.1 132 = .ok (.getfield 212, 3) := by decide +kernel
theorem d_M_one_135 : decode zy_M_one.2.1 135 = .ok (.iconst 1, 1) := by decide +kernel
theorem d_M_one_136 : decode zy_M_one.2.1 136 = .ok (.isub, 1) := by decide +kernel
theorem d_M_one_137 : decode zy_M_one.2.1 137 = .ok (.putfield 212, 3) := by decide +kernel
theorem d_M_one_140 : decode zy_M_one.2.1 140 = .ok (.aload_n 0, 1) := by decide +kernel
theorem d_M_one_141 : decode zy_M_one.2.1 141 = .ok (.invokevirtual 218, 3) := by decide +kernel
theorem d_M_one_144 : decode zy_M_one.2.1 144 = .ok (.return_, 1) := by decide +kernel
theorem d_M_people_0 : decode zy_M_people.2.1 0 = .ok (.iload_n 1, 1) := by decide +kernel
theorem d_M_people_1 : decode zy_M_people.2.1 1 = .ok (.invokestatic 339, 3) := by decide +kernel
theorem d_M_people_4 : decode zy_M_people.2.1 4 = .ok (.ifCond .eq (28), 3) := by decide +kernel
theorem d_M_people_7 : decode zy_M_people.2.1 7 = .ok (.iload_n 2, 1) := by decide +kernel
theorem d_M_people_8 : decode zy_M_people.2.1 8 = .ok (.i2l, 1) := by decide +kernel
theorem d_M_people_9 : decode zy_M_people.2.1 9 = .ok (.lconst 0, 1) := by decide +kernel
theorem d_M_people_10 : decode zy_M_people.2.1 10 = .ok (.ldc2_w 323, 3) := by decide +kernel
theorem d_M_people_13 : decode zy_M_people.2.1 13 = .ok (.invokestatic 109, 3) := by decide +kernel
theorem d_M_people_16 : decode zy_M_people.2.1 16 = .ok (.ifCond .eq (16), 3) := by decide +kernel
theorem d_M_people_19 : decode zy_M_people.2.1 19 = .ok (.iload 4, 2) := by decide +kernel
theorem d_M_people_21 : decode zy_M_people.2.1 21 = .ok (.i2l, 1) := by decide +kernel
theorem d_M_people_22 : decode zy_M_people.2.1 22 = .ok (.lconst 0, 1) := by decide +kernel
theorem d_M_people_23 : decode zy_M_people.2.1 23 = .ok (.ldc2_w 159, 3) := by decide +kernel
theorem d_M_people_26 : decode zy_M_people.2.1 26 = .ok (.invokestatic 109, 3) := by decide +kernel
theorem d_M_people_29 : decode zy_M_people.2.1 29 = .ok (.ifCond .ne (6), 3) := by decide +kernel
theorem d_M_people_32 : decode zy_M_people.2.1 32 = .ok (.bipush (-2), 2) := by decide +kernel
theorem d_M_people_34 : decode zy_M_people.2.1 34 = .ok (.ireturn, 1) := by decide +kernel
theorem d_M_people_35 : decode zy_M_people.2.1 35 = .ok (.aload_n 0, 1) := by decide +kernel
theorem d_M_people_36 : decode zy_M_people.2.1 36 = .ok (.getfield 91, 3) := by decide +kernel
theorem d_M_people_39 : decode zy_M_people.2.1 39 = .ok (.iload_n 1, 1) := by decide +kernel
theorem d_M_people_40 : decode zy_M_people.2.1 40 = .ok (.iaload, 1) := by decide +kernel
theorem d_M_people_41 : decode zy_M_people.2.1 41 = .ok (.ifCond .lt (16), 3) := by decide +kernel
theorem d_M_people_44 : decode zy_M_people.2.1 44 = .ok (.aload_n 0, 1) := by decide +kernel
theorem d_M_people_45 : decode zy_M_people.2.1 45 = .ok (.getfield 91, 3) := by decide +kernel
theorem d_M_people_48 : decode zy_M_people.2.1 48 = .ok (.iload_n 1, 1) := by decide +kernel
theorem d_M_people_49 : decode zy_M_people.2.1 49 = .ok (.iaload, 1) := by decide +kernel
theorem d_M_people_50 : decode zy_M_people.2.1 50 = .ok (.iload_n 2, 1) := by decide +kernel
theorem d_M_people_51 : decode zy_M_people.2.1 51 = .ok (.if_icmp .eq (6), 3) := by decide +kernel
theorem d_M_people_54 : decode zy_M_people.2.1 54 = .ok (.bipush (-13), 2) := by decide +kernel
theorem d_M_people_56 : decode zy_M_people.2.1 56 = .ok (.ireturn, 1) := by decide +kernel
theorem d_M_people_57 : decode zy_M_people.2.1 57 = .ok (.aload_n 0, 1) := by decide +kernel
theorem d_M_people_58 : decode zy_M_people.2.1 58 = .ok (.getfield 91, 3) := by decide +kernel
theorem d_M_people_61 : decode zy_M_people.2.1 61 = .ok (.iload_n 1, 1) := by decide +kernel
theorem d_M_people_62 : decode zy_M_people.2.1 62 = .ok (.iaload, 1) := by decide +kernel
theorem d_M_people_63 : decode zy_M_people.2.1 63 = .ok (.ifCond .ge (6), 3) := by decide +kernel
theorem d_M_people_66 : decode zy_M_people.2.1 66 = .ok (.bipush (-11), 2) := by decide +kernel
theorem d_M_people_68 : decode zy_M_people.2.1 68 = .ok (.ireturn, 1) := by decide +kernel
theorem d_M_people_69 : decode zy_M_people.2.1 69 = .ok (.iconst 0, 1) := by decide +kernel
theorem d_M_people_70 : decode zy_M_people.2.1 70 = .ok (.istore 5, 2) := by decide +kernel
theorem d_M_people_72 : decode zy_M_people.2.1 72 = .ok (.iconst 0, 1) := by decide +kernel
theorem d_M_people_73 : decode zy_M_people.2.1 73 = .ok (.istore 6, 2) := by decide +kernel
theorem d_M_people_75 : decode zy_M_people.2.1 75 = .ok (.iload 6, 2) := by decide +kernel
theorem d_M_people_77 : decode zy_M_people.2.1 77 = .ok (.iload 4, 2) := by decide +kernel
theorem d_M_people_79 : decode zy_M_people.2.1 79 = .ok (.if_icmp .ge (79), 3) := by decide +kernel
theorem d_M_people_82 : decode zy_M_people.2.1 82 = .ok (.iload_n 3, 1) := by decide +kernel
theorem d_M_people_83 : decode zy_M_people.2.1 83 = .ok (.ifCond .lt (20), 3) := by decide +kernel
theorem d_M_people_86 : decode zy_M_people.2.1 86 = .ok (.iload_n 3, 1) := by decide +kernel
theorem d_M_people_87 : decode zy_M_people.2.1 87 = .ok (.aload_n 0, 1) := by decide +kernel
theorem d_M_people_88 : decode zy_M_people.2.1 88 = .ok (.getfield 94, 3) := by decide +kernel
theorem d_M_people_91 : decode zy_M_people.2.1 91 = .ok (.iload_n 1, 1) := by decide +kernel
theorem d_M_people_92 : decode zy_M_people.2.1 92 = .ok (.iaload, 1) := by decide +kernel
theorem d_M_people_93 : decode zy_M_people.2.1 93 = .ok (.iconst 2, 1) := by decide +kernel
theorem d_M_people_94 : decode zy_M_people.2.1 94 = .ok (.isub, 1) := by decide +kernel
theorem d_M_people_95 : decode zy_M_people.2.1 95 = .ok (.iconst 2, 1) := by decide +kernel
theorem d_M_people_96 : decode zy_M_people.2.1 96 = .ok (.iload 6, 2) := by decide +kernel
theorem d_M_people_98 : decode zy_M_people.2.1 98 = .ok (.imul, 1) := by decide +kernel
theorem d_M_people_99 : decode zy_M_people.2.1 99 = .ok (.isub, 1) := by decide +kernel
theorem d_M_people_100 : decode zy_M_people.2.1 100 = .ok (.if_icmp .le (6), 3) := by decide +kernel
theorem d_M_people_103 : decode zy_M_people.2.1 103 = .ok (.bipush (-12), 2) := by decide +kernel
theorem d_M_people_105 : decode zy_M_people.2.1 105 = .ok (.ireturn, 1) := by decide +kernel
theorem d_M_people_106 : decode zy_M_people.2.1 106 = .ok (.bipush 40, 2) := by decide +kernel
theorem d_M_people_108 : decode zy_M_people.2.1 108 = .ok (.iload_n 1, 1) := by decide +kernel
theorem d_M_people_109 : decode zy_M_people.2.1 109 = .ok (.imul, 1) := by decide +kernel
theorem d_M_people_110 : decode zy_M_people.2.1 110 = .ok (.iload_n 3, 1) := by decide +kernel
theorem d_M_people_111 : decode zy_M_people.2.1 111 = .ok (.iadd, 1) := by decide +kernel
theorem d_M_people_112 : decode zy_M_people.2.1 112 = .ok (.iconst 2, 1) := by decide +kernel
theorem d_M_people_113 : decode zy_M_people.2.1 113 = .ok (.iload 6, 2) := by decide +kernel
theorem d_M_people_115 : decode zy_M_people.2.1 115 = .ok (.imul, 1) := by decide +kernel
theorem d_M_people_116 : decode zy_M_people.2.1 116 = .ok (.iadd, 1) := by decide +kernel
theorem d_M_people_117 : decode zy_M_people.2.1 117 = .ok (.istore 7, 2) := by decide +kernel
theorem d_M_people_119 : decode zy_M_people.2.1 119 = .ok (.iload 5, 2) := by decide +kernel
theorem d_M_people_121 : decode zy_M_people.2.1 121 = .ok (.aload_n 0, 1) := by decide +kernel
theorem d_M_people_122 : decode zy_M_people.2.1 122 = .ok (.aload_n 0, 1) := by decide +kernel
theorem d_M_people_123 : decode zy_M_people.2.1 123 = .ok (.getfield 97, 3) := by decide +kernel
theorem d_M_people_126 : decode zy_M_people.2.1 126 = .ok (.iload 7, 2) := by decide +kernel
theorem d_M_people_128 : decode zy_M_people.2.1 128 = .ok (.iaload, 1) := by decide +kernel
theorem d_M_people_129 : decode zy_M_people.2.1 129 = .ok (.aload_n 0, 1) := by decide +kernel
theorem d_M_people_130 : decode zy_M_people.2.1 130 = .ok (.getfield 97, 3) := by decide +kernel
theorem d_M_people_133 : decode zy_M_people.2.1 133 = .ok (.iload 7, 2) := by decide +kernel
theorem d_M_people_135 : decode zy_M_people.2.1 135 = .ok (.iconst 1, 1) := by decide +kernel
theorem d_M_people_136 : decode zy_M_people.2.1 136 = .ok (.iadd, 1) := by decide +kernel
theorem d_M_people_137 : decode zy_M_people.2.1 137 = .ok (.iaload, 1) := by decide +kernel
theorem d_M_people_138 : decode zy_M_people.2.1 138 = .ok (.invokevirtual 358, 3) := by decide +kernel
theorem d_M_people_141 : decode zy_M_people.2.1 141 = .ok (.ifCond .lt (7), 3) := by decide +kernel
theorem d_M_people_144 : decode zy_M_people.2.1 144 = .ok (.iconst 1, 1) := by decide +kernel
theorem d_M_people_145 : decode zy_M_people.2.1 145 = .ok (.goto (4), 3) := by decide +kernel
theorem d_M_people_148 : decode zy_M_people.2.1 148 = .ok (.iconst 0, 1) := by decide +kernel
theorem d_M_people_149 : decode zy_M_people.2.1 149 = .ok (.iadd, 1) := by decide +kernel
theorem d_M_people_150 : decode zy_M_people.2.1 150 = .ok (.istore 5, 2) := by decide +kernel
theorem d_M_people_152 : decode zy_M_people.2.1 152 = .ok (.iinc 6 1, 3) := by decide +kernel
theorem d_M_people_155 : decode zy_M_people.2.1 155 = .ok (.goto (-80), 3) := by decide +kernel
theorem d_M_people_158 : decode zy_M_people.2.1 158 = .ok (.iload 5, 2) := by decide +kernel
theorem d_M_people_160 : decode zy_M_people.2.1 160 = .ok (.ireturn, 1) := by decide +kernel
theorem d_X_few_0 : decode zy_X_few.2.1 0 = .ok (.aload_n 0, 1) := by decide +kernel
theorem d_X_few_1 : decode zy_X_few.2.1 1 = .ok (.iload_n 1, 1) := by decide +kernel
theorem d_X_few_2 : decode zy_X_few.2.1 2 = .ok (.invokevirtual 184, 3) := by decide +kernel
theorem d_X_few_5 : decode zy_X_few.2.1 5 = .ok (.ifCond .ne (6), 3) := by decide +kernel
theorem d_X_few_8 : decode zy_X_few.2.1 8 = .ok (.bipush (-2), 2) := by decide +kernel
theorem d_X_few_10 : decode zy_X_few.2.1 10 = .ok (.ireturn, 1) := by decide +kernel
theorem d_X_few_11 : decode zy_X_few.2.1 11 = .ok (.aload_n 0, 1) := by decide +kernel
theorem d_X_few_12 : decode zy_X_few.2.1 12 = .ok (.invokevirtual 194, 3) := by decide +kernel
theorem d_X_few_15 : decode zy_X_few.2.1 15 = .ok (.aload_n 0, 1) := by decide +kernel
theorem d_X_few_16 : decode zy_X_few.2.1 16 = .ok (.getfield 45, 3) := by decide +kernel
theorem d_X_few_19 : decode zy_X_few.2.1 19 = .ok (.aload_n 0, 1) := by decide +kernel
theorem d_X_few_20 : decode zy_X_few.2.1 20 = .ok (.invokevirtual 197, 3) := by decide +kernel
theorem d_X_few_23 : decode zy_X_few.2.1 23 = .ok (.iload_n 1, 1) := by decide +kernel
theorem d_X_few_24 : decode zy_X_few.2.1 24 = .ok (.iconst (-1), 1) := by decide +kernel
theorem d_X_few_25 : decode zy_X_few.2.1 25 = .ok (.ixor, 1) := by decide +kernel
theorem d_X_few_26 : decode zy_X_few.2.1 26 = .ok (.iand, 1) := by decide +kernel
theorem d_X_few_27 : decode zy_X_few.2.1 27 = .ok (.invokevirtual 200, 3) := by decide +kernel
theorem d_X_few_30 : decode zy_X_few.2.1 30 = .ok (.ireturn, 1) := by decide +kernel
theorem d_X_firstThatBreaks_0 : decode zy_X_firstThatBreaks.2.1 0 = .ok (.aload_n 0, 1) := by decide +kernel
theorem d_X_firstThatBreaks_1 : decode zy_X_firstThatBreaks.2.1 1 = .ok (.invokevirtual 194, 3) := by decide +kernel
theorem d_X_firstThatBreaks_4 : decode zy_X_firstThatBreaks.2.1 4 = .ok (.iconst 0, 1) := by decide +kernel
theorem d_X_firstThatBreaks_5 : decode zy_X_firstThatBreaks.2.1 5 = .ok (.istore_n 2, 1) := by decide +kernel
theorem d_X_firstThatBreaks_6 : decode zy_X_firstThatBreaks.2.1 6 = .ok (.iload_n 2, 1) := by decide +kernel
theorem d_X_firstThatBreaks_7 : decode zy_X_firstThatBreaks.2.1 7 = .ok (.aload_n 0, 1) := by decide +kernel
theorem d_X_firstThatBreaks_8 : decode zy_X_firstThatBreaks.2.1 8 = .ok (.invokevirtual 197, 3) := by decide +kernel
theorem d_X_firstThatBreaks_11 : decode zy_X_firstThatBreaks.2.1 11 = .ok (.if_icmp .gt (38), 3) := by decide +kernel
theorem d_X_firstThatBreaks_14 : decode zy_X_firstThatBreaks.2.1 14 = .ok (.iload_n 2, 1) := by decide +kernel
theorem d_X_firstThatBreaks_15 : decode zy_X_firstThatBreaks.2.1 15 = .ok (.invokestatic 301, 3) := by decide +kernel
theorem d_X_firstThatBreaks_18 : decode zy_X_firstThatBreaks.2.1 18 = .ok (.iload_n 1, 1) := by decide +kernel
theorem d_X_firstThatBreaks_19 : decode zy_X_firstThatBreaks.2.1 19 = .ok (.if_icmp .ne (24), 3) := by decide +kernel
theorem d_X_firstThatBreaks_22 : decode zy_X_firstThatBreaks.2.1 22 = .ok (.aload_n 0, 1) := by decide +kernel
theorem d_X_firstThatBreaks_23 : decode zy_X_firstThatBreaks.2.1 23 = .ok (.getfield 45, 3) := by decide +kernel
theorem d_X_firstThatBreaks_26 : decode zy_X_firstThatBreaks.2.1 26 = .ok (.aload_n 0, 1) := by decide +kernel
theorem d_X_firstThatBreaks_27 : decode zy_X_firstThatBreaks.2.1 27 = .ok (.invokevirtual 197, 3) := by decide +kernel
theorem d_X_firstThatBreaks_30 : decode zy_X_firstThatBreaks.2.1 30 = .ok (.iload_n 2, 1) := by decide +kernel
theorem d_X_firstThatBreaks_31 : decode zy_X_firstThatBreaks.2.1 31 = .ok (.iconst (-1), 1) := by decide +kernel
theorem d_X_firstThatBreaks_32 : decode zy_X_firstThatBreaks.2.1 32 = .ok (.ixor, 1) := by decide +kernel
theorem d_X_firstThatBreaks_33 : decode zy_X_firstThatBreaks.2.1 33 = .ok (.iand, 1) := by decide +kernel
theorem d_X_firstThatBreaks_34 : decode zy_X_firstThatBreaks.2.1 34 = .ok (.invokevirtual 200, 3) := by decide +kernel
theorem d_X_firstThatBreaks_37 : decode zy_X_firstThatBreaks.2.1 37 = .ok (.iconst (-1), 1) := by decide +kernel
theorem d_X_firstThatBreaks_38 : decode zy_X_firstThatBreaks.2.1 38 = .ok (.if_icmp .eq (5), 3) := by decide +kernel
theorem d_X_firstThatBreaks_41 : decode zy_X_firstThatBreaks.2.1 41 = .ok (.iload_n 2, 1) := by decide +kernel
theorem d_X_firstThatBreaks_42 : decode zy_X_firstThatBreaks.2.1 42 = .ok (.ireturn, 1) := by decide +kernel
theorem d_X_firstThatBreaks_43 : decode zy_X_firstThatBreaks.2.1 43 = .ok (.iinc 2 1, 3) := by decide +kernel
theorem d_X_firstThatBreaks_46 : decode zy_X_firstThatBreaks.2.1 46 = .ok (.goto (-40), 3) := by decide +kernel
theorem d_X_firstThatBreaks_49 : decode zy_X_firstThatBreaks.2.1 49 = .ok (.iconst (-1), 1) := by decide +kernel
theorem d_X_firstThatBreaks_50 : decode zy_X_firstThatBreaks.2.1 50 = .ok (.ireturn, 1) := by decide +kernel
theorem d_X_holds_0 : decode zy_X_holds.2.1 0 = .ok (.iload_n 1, 1) := by decide +kernel
theorem d_X_holds_1 : decode zy_X_holds.2.1 1 = .ok (.ifCond .lt (9), 3) := by decide +kernel
theorem d_X_holds_4 : decode zy_X_holds.2.1 4 = .ok (.iload_n 1, 1) := by decide +kernel
theorem d_X_holds_5 : decode zy_X_holds.2.1 5 = .ok (.bipush 7, 2) := by decide +kernel
theorem d_X_holds_7 : decode zy_X_holds.2.1 7 = .ok (.if_icmp .le (6), 3) := by decide +kernel
theorem d_X_holds_10 : decode zy_X_holds.2.1 10 = .ok (.bipush (-2), 2) := by decide +kernel
theorem d_X_holds_12 : decode zy_X_holds.2.1 12 = .ok (.ireturn, 1) := by decide +kernel
theorem d_X_holds_13 : decode zy_X_holds.2.1 13 = .ok (.aload_n 0, 1) := by decide +kernel
theorem d_X_holds_14 : decode zy_X_holds.2.1 14 = .ok (.invokevirtual 194, 3) := by decide +kernel
theorem d_X_holds_17 : decode zy_X_holds.2.1 17 = .ok (.aload_n 0, 1) := by decide +kernel
theorem d_X_holds_18 : decode zy_X_holds.2.1 18 = .ok (.getfield 45, 3) := by decide +kernel
theorem d_X_holds_21 : decode zy_X_holds.2.1 21 = .ok (.iload_n 1, 1) := by decide +kernel
theorem d_X_holds_22 : decode zy_X_holds.2.1 22 = .ok (.aload_n 0, 1) := by decide +kernel
theorem d_X_holds_23 : decode zy_X_holds.2.1 23 = .ok (.getfield 22, 3) := by decide +kernel
theorem d_X_holds_26 : decode zy_X_holds.2.1 26 = .ok (.invokevirtual 203, 3) := by decide +kernel
theorem d_X_holds_29 : decode zy_X_holds.2.1 29 = .ok (.ifCond .eq (7), 3) := by decide +kernel
theorem d_X_holds_32 : decode zy_X_holds.2.1 32 = .ok (.iconst 1, 1) := by decide +kernel
theorem d_X_holds_33 : decode zy_X_holds.2.1 33 = .ok (.goto (4), 3) := by decide +kernel
theorem d_X_holds_36 : decode zy_X_holds.2.1 36 = .ok (.iconst 0, 1) := by decide +kernel
theorem d_X_holds_37 : decode zy_X_holds.2.1 37 = .ok (.ireturn, 1) := by decide +kernel
theorem d_X_judge_0 : decode zy_X_judge.2.1 0 = .ok (.aload_n 0, 1) := by decide +kernel
theorem d_X_judge_1 : decode zy_X_judge.2.1 1 = .ok (.iload_n 1, 1) := by decide +kernel
theorem d_X_judge_2 : decode zy_X_judge.2.1 2 = .ok (.invokevirtual 184, 3) := by decide +kernel
theorem d_X_judge_5 : decode zy_X_judge.2.1 5 = .ok (.ifCond .eq (10), 3) := by decide +kernel
theorem d_X_judge_8 : decode zy_X_judge.2.1 8 = .ok (.iload_n 2, 1) := by decide +kernel
theorem d_X_judge_9 : decode zy_X_judge.2.1 9 = .ok (.invokestatic 277, 3) := by decide +kernel
theorem d_X_judge_12 : decode zy_X_judge.2.1 12 = .ok (.ifCond .ne (6), 3) := by decide +kernel
theorem d_X_judge_15 : decode zy_X_judge.2.1 15 = .ok (.bipush (-2), 2) := by decide +kernel
theorem d_X_judge_17 : decode zy_X_judge.2.1 17 = .ok (.ireturn, 1) := by decide +kernel
theorem d_X_judge_18 : decode zy_X_judge.2.1 18 = .ok (.aload_n 0, 1) := by decide +kernel
theorem d_X_judge_19 : decode zy_X_judge.2.1 19 = .ok (.getfield 65, 3) := by decide +kernel
theorem d_X_judge_22 : decode zy_X_judge.2.1 22 = .ok (.iload_n 2, 1) := by decide +kernel
theorem d_X_judge_23 : decode zy_X_judge.2.1 23 = .ok (.aaload, 1) := by decide +kernel
theorem d_X_judge_24 : decode zy_X_judge.2.1 24 = .ok (.astore_n 3, 1) := by decide +kernel
theorem d_X_judge_25 : decode zy_X_judge.2.1 25 = .ok (.aload_n 3, 1) := by decide +kernel
theorem d_X_judge_26 : decode zy_X_judge.2.1 26 = .ok (.invokevirtual 280, 3) := by decide +kernel
theorem d_X_judge_29 : decode zy_X_judge.2.1 29 = .ok (.ifCond .eq (6), 3) := by decide +kernel
theorem d_X_judge_32 : decode zy_X_judge.2.1 32 = .ok (.bipush (-11), 2) := by decide +kernel
theorem d_X_judge_34 : decode zy_X_judge.2.1 34 = .ok (.ireturn, 1) := by decide +kernel
theorem d_X_judge_35 : decode zy_X_judge.2.1 35 = .ok (.aload_n 3, 1) := by decide +kernel
theorem d_X_judge_36 : decode zy_X_judge.2.1 36 = .ok (.getfield 284, 3) := by decide +kernel
theorem d_X_judge_39 : decode zy_X_judge.2.1 39 = .ok (.aload_n 0, 1) := by decide +kernel
theorem d_X_judge_40 : decode zy_X_judge.2.1 40 = .ok (.getfield 10, 3) := by decide +kernel
theorem d_X_judge_43 : decode zy_X_judge.2.1 43 = .ok (.getfield 254, 3) := by decide +kernel
theorem d_X_judge_46 : decode zy_X_judge.2.1 46 = .ok (.if_icmp .eq (6), 3) := by decide +kernel
theorem d_X_judge_49 : decode zy_X_judge.2.1 49 = .ok (.bipush (-2), 2) := by decide +kernel
theorem d_X_judge_51 : decode zy_X_judge.2.1 51 = .ok (.ireturn, 1) := by decide +kernel
theorem d_X_judge_52 : decode zy_X_judge.2.1 52 = .ok (.aload_n 0, 1) := by decide +kernel
theorem d_X_judge_53 : decode zy_X_judge.2.1 53 = .ok (.invokevirtual 197, 3) := by decide +kernel
theorem d_X_judge_56 : decode zy_X_judge.2.1 56 = .ok (.iload_n 1, 1) := by decide +kernel
theorem d_X_judge_57 : decode zy_X_judge.2.1 57 = .ok (.iconst (-1), 1) := by decide +kernel
theorem d_X_judge_58 : decode zy_X_judge.2.1 58 = .ok (.ixor, 1) := by decide +kernel
theorem d_X_judge_59 : decode zy_X_judge.2.1 59 = .ok (.iand, 1) := by decide +kernel
theorem d_X_judge_60 : decode zy_X_judge.2.1 60 = .ok (.istore 4, 2) := by decide +kernel
theorem d_X_judge_62 : decode zy_X_judge.2.1 62 = .ok (.iconst 0, 1) := by decide +kernel
theorem d_X_judge_63 : decode zy_X_judge.2.1 63 = .ok (.istore 5, 2) := by decide +kernel
theorem d_X_judge_65 : decode zy_X_judge.2.1 65 = .ok (.iload 5, 2) := by decide +kernel
theorem d_X_judge_67 : decode zy_X_judge.2.1 67 = .ok (.aload_n 0, 1) := by decide +kernel
theorem d_X_judge_68 : decode zy_X_judge.2.1 68 = .ok (.getfield 10, 3) := by decide +kernel
theorem d_X_judge_71 : decode zy_X_judge.2.1 71 = .ok (.getfield 254, 3) := by decide +kernel
theorem d_X_judge_74 : decode zy_X_judge.2.1 74 = .ok (.if_icmp .ge (56), 3) := by decide +kernel
theorem d_X_judge_77 : decode zy_X_judge.2.1 77 = .ok (.aload_n 3, 1) := by decide +kernel
theorem d_X_judge_78 : decode zy_X_judge.2.1 78 = .ok (.getfield 285, 3) := by decide +kernel
theorem d_X_judge_81 : decode zy_X_judge.2.1 81 = .ok (.iload 5, 2) := by decide +kernel
theorem d_X_judge_83 : decode zy_X_judge.2.1 83 = .ok (.iaload, 1) := by decide +kernel
theorem d_X_judge_84 : decode zy_X_judge.2.1 84 = .ok (.istore 6, 2) := by decide +kernel
theorem d_X_judge_86 : decode zy_X_judge.2.1 86 = .ok (.aload_n 0, 1) := by decide +kernel
theorem d_X_judge_87 : decode zy_X_judge.2.1 87 = .ok (.iload 5, 2) := by decide +kernel
theorem d_X_judge_89 : decode zy_X_judge.2.1 89 = .ok (.iload 6, 2) := by decide +kernel
theorem d_X_judge_91 : decode zy_X_judge.2.1 91 = .ok (.iload 4, 2) := by decide +kernel
theorem d_X_judge_93 : decode zy_X_judge.2.1 93 = .ok (.invokevirtual 288, 3) := by decide +kernel
theorem d_X_judge_96 : decode zy_X_judge.2.1 96 = .ok (.istore 7, 2) := by decide +kernel
theorem d_X_judge_98 : decode zy_X_judge.2.1 98 = .ok (.iload 7, 2) := by decide +kernel
theorem d_X_judge_100 : decode zy_X_judge.2.1 100 = .ok (.iconst (-1), 1) := by decide +kernel
theorem d_X_judge_101 : decode zy_X_judge.2.1 101 = .ok (.if_icmp .eq (6), 3) := by decide +kernel
theorem d_X_judge_104 : decode zy_X_judge.2.1 104 = .ok (.iload 7, 2) := by decide +kernel
theorem d_X_judge_106 : decode zy_X_judge.2.1 106 = .ok (.ireturn, 1) := by decide +kernel
theorem d_X_judge_107 : decode zy_X_judge.2.1 107 = .ok (.iload 6, 2) := by decide +kernel
theorem d_X_judge_109 : decode zy_X_judge.2.1 109 = .ok (.iconst (-1), 1) := by decide +kernel
theorem d_X_judge_110 : decode zy_X_judge.2.1 110 = .ok (.if_icmp .eq (14), 3) := by decide +kernel
theorem d_X_judge_113 : decode zy_X_judge.2.1 113 = .ok (.iload 4, 2) := by decide +kernel
theorem d_X_judge_115 : decode zy_X_judge.2.1 115 = .ok (.iconst 1, 1) := by decide +kernel
theorem d_X_judge_116 : decode zy_X_judge.2.1 116 = .ok (.iload 6, 2) := by decide +kernel
theorem d_X_judge_118 : decode zy_X_judge.2.1 118 = .ok (.ishl, 1) := by decide +kernel
theorem d_X_judge_119 : decode zy_X_judge.2.1 119 = .ok (.iconst (-1), 1) := by decide +kernel
theorem d_X_judge_120 : decode zy_X_judge.2.1 120 = .ok (.ixor, 1) := by decide +kernel
theorem d_X_judge_121 : decode zy_X_judge.2.1 121 = .ok (.iand, 1) := by decide +kernel
theorem d_X_judge_122 : decode zy_X_judge.2.1 122 = .ok (.istore 4, 2) := by decide +kernel
theorem d_X_judge_124 : decode zy_X_judge.2.1 124 = .ok (.iinc 5 1, 3) := by decide +kernel
theorem d_X_judge_127 : decode zy_X_judge.2.1 127 = .ok (.goto (-62), 3) := by decide +kernel
theorem d_X_judge_130 : decode zy_X_judge.2.1 130 = .ok (.iconst (-1), 1) := by decide +kernel
theorem d_X_judge_131 : decode zy_X_judge.2.1 131 = .ok (.ireturn, 1) := by decide +kernel
theorem d_X_lessons_0 : decode zy_X_lessons.2.1 0 = .ok (.iload_n 1, 1) := by decide +kernel
theorem d_X_lessons_1 : decode zy_X_lessons.2.1 1 = .ok (.ifCond .lt (17), 3) := by decide +kernel
theorem d_X_lessons_4 : decode zy_X_lessons.2.1 4 = .ok (.iload_n 1, 1) := by decide +kernel
theorem d_X_lessons_5 : decode zy_X_lessons.2.1 5 = .ok (.iconst 2, 1) := by decide +kernel
theorem d_X_lessons_6 : decode zy_X_lessons.2.1 6 = .ok (.if_icmp .gt (12), 3) := by decide +kernel
theorem d_X_lessons_9 : decode zy_X_lessons.2.1 9 = .ok (.iload_n 2, 1) := by decide +kernel
theorem d_X_lessons_10 : decode zy_X_lessons.2.1 10 = .ok (.ifCond .lt (8), 3) := by decide +kernel
theorem d_X_lessons_13 : decode zy_X_lessons.2.1 13 = .ok (.iload_n 2, 1) := by decide +kernel
theorem d_X_lessons_14 : decode zy_X_lessons.2.1 14 = .ok (.iconst 2, 1) := by decide +kernel
theorem d_X_lessons_15 : decode zy_X_lessons.2.1 15 = .ok (.if_icmp .le (6), 3) := by decide +kernel
theorem d_X_lessons_18 : decode zy_X_lessons.2.1 18 = .ok (.bipush (-2), 2) := by decide +kernel
theorem d_X_lessons_20 : decode zy_X_lessons.2.1 20 = .ok (.ireturn, 1) := by decide +kernel
theorem d_X_lessons_21 : decode zy_X_lessons.2.1 21 = .ok (.aload_n 0, 1) := by decide +kernel
theorem d_X_lessons_22 : decode zy_X_lessons.2.1 22 = .ok (.invokevirtual 194, 3) := by decide +kernel
theorem d_X_lessons_25 : decode zy_X_lessons.2.1 25 = .ok (.aload_n 0, 1) := by decide +kernel
theorem d_X_lessons_26 : decode zy_X_lessons.2.1 26 = .ok (.getfield 59, 3) := by decide +kernel
theorem d_X_lessons_29 : decode zy_X_lessons.2.1 29 = .ok (.invokevirtual 213, 3) := by decide +kernel
theorem d_X_lessons_32 : decode zy_X_lessons.2.1 32 = .ok (.aload_n 0, 1) := by decide +kernel
theorem d_X_lessons_33 : decode zy_X_lessons.2.1 33 = .ok (.getfield 45, 3) := by decide +kernel
theorem d_X_lessons_36 : decode zy_X_lessons.2.1 36 = .ok (.iload_n 1, 1) := by decide +kernel
theorem d_X_lessons_37 : decode zy_X_lessons.2.1 37 = .ok (.aload_n 0, 1) := by decide +kernel
theorem d_X_lessons_38 : decode zy_X_lessons.2.1 38 = .ok (.getfield 22, 3) := by decide +kernel
theorem d_X_lessons_41 : decode zy_X_lessons.2.1 41 = .ok (.invokevirtual 203, 3) := by decide +kernel
theorem d_X_lessons_44 : decode zy_X_lessons.2.1 44 = .ok (.ifCond .ne (41), 3) := by decide +kernel
theorem d_X_lessons_47 : decode zy_X_lessons.2.1 47 = .ok (.aload_n 0, 1) := by decide +kernel
theorem d_X_lessons_48 : decode zy_X_lessons.2.1 48 = .ok (.invokevirtual 216, 3) := by decide +kernel
theorem d_X_lessons_51 : decode zy_X_lessons.2.1 51 = .ok (.aload_n 0, 1) := by decide +kernel
theorem d_X_lessons_52 : decode zy_X_lessons.2.1 52 = .ok (.getfield 59, 3) := by decide +kernel
theorem d_X_lessons_55 : decode zy_X_lessons.2.1 55 = .ok (.aload_n 0, 1) := by decide +kernel
theorem d_X_lessons_56 : decode zy_X_lessons.2.1 56 = .ok (.getfield 45, 3) := by decide +kernel
theorem d_X_lessons_59 : decode zy_X_lessons.2.1 59 = .ok (.iload_n 1, 1) := by decide +kernel
theorem d_X_lessons_60 : decode zy_X_lessons.2.1 60 = .ok (.iconst 1, 1) := by decide +kernel
theorem d_X_lessons_61 : decode zy_X_lessons.2.1 61 = .ok (.invokevirtual 219, 3) := by decide +kernel
theorem d_X_lessons_64 : decode zy_X_lessons.2.1 64 = .ok (.aload_n 0, 1) := by decide +kernel
theorem d_X_lessons_65 : decode zy_X_lessons.2.1 65 = .ok (.getfield 45, 3) := by decide +kernel
theorem d_X_lessons_68 : decode zy_X_lessons.2.1 68 = .ok (.iload_n 1, 1) := by decide +kernel
theorem d_X_lessons_69 : decode zy_X_lessons.2.1 69 = .ok (.iconst 2, 1) := by decide +kernel
theorem d_X_lessons_70 : decode zy_X_lessons.2.1 70 = .ok (.invokevirtual 219, 3) := by decide +kernel
theorem d_X_lessons_73 : decode zy_X_lessons.2.1 73 = .ok (.aload_n 0, 1) := by decide +kernel
theorem d_X_lessons_74 : decode zy_X_lessons.2.1 74 = .ok (.getfield 45, 3) := by decide +kernel
theorem d_X_lessons_77 : decode zy_X_lessons.2.1 77 = .ok (.iload_n 1, 1) := by decide +kernel
theorem d_X_lessons_78 : decode zy_X_lessons.2.1 78 = .ok (.iconst 3, 1) := by decide +kernel
theorem d_X_lessons_79 : decode zy_X_lessons.2.1 79 = .ok (.invokevirtual 219, 3) := by decide +kernel
theorem d_X_lessons_82 : decode zy_X_lessons.2.1 82 = .ok (.invokevirtual 223, 3) := by decide +kernel
theorem d_X_lessons_85 : decode zy_X_lessons.2.1 85 = .ok (.aload_n 0, 1) := by decide +kernel
theorem d_X_lessons_86 : decode zy_X_lessons.2.1 86 = .ok (.getfield 59, 3) := by decide +kernel
theorem d_X_lessons_89 : decode zy_X_lessons.2.1 89 = .ok (.getfield 227, 3) := by decide +kernel
theorem d_X_lessons_92 : decode zy_X_lessons.2.1 92 = .ok (.iconst (-1), 1) := by decide +kernel
theorem d_X_lessons_93 : decode zy_X_lessons.2.1 93 = .ok (.if_icmp .ne (5), 3) := by decide +kernel
theorem d_X_lessons_96 : decode zy_X_lessons.2.1 96 = .ok (.iconst (-1), 1) := by decide +kernel
theorem d_X_lessons_97 : decode zy_X_lessons.2.1 97 = .ok (.ireturn, 1) := by decide +kernel
theorem d_X_lessons_98 : decode zy_X_lessons.2.1 98 = .ok (.iload_n 2, 1) := by decide +kernel
theorem d_X_lessons_99 : decode zy_X_lessons.2.1 99 = .ok (.ifCond .ne (13), 3) := by decide +kernel
theorem d_X_lessons_102 : decode zy_X_lessons.2.1 102 = .ok (.aload_n 0, 1) := by decide +kernel
theorem d_X_lessons_103 : decode zy_X_lessons.2.1 103 = .ok (.getfield 59, 3) := by decide +kernel
theorem d_X_lessons_106 : decode zy_X_lessons.2.1 106 = .ok (.getfield 227, 3) := by decide +kernel
theorem d_X_lessons_109 : decode zy_X_lessons.2.1 109 = .ok (.goto (25), 3) := by decide +kernel
theorem d_X_lessons_112 : decode zy_X_lessons.2.1 112 = .ok (.iload_n 2, 1) := by decide +kernel
theorem d_X_lessons_113 : decode zy_X_lessons.2.1 113 = .ok (.iconst 1, 1) := by decide +kernel
theorem d_X_lessons_114 : decode zy_X_lessons.2.1 114 = .ok (.if_icmp .ne (13), 3) := by decide +kernel
theorem d_X_lessons_117 : decode zy_X_lessons.2.1 117 = .ok (.aload_n 0, 1) := by decide +kernel
theorem d_X_lessons_118 : decode zy_X_lessons.2.1 118 = .ok (.getfield 59, 3) := by decide +kernel
theorem d_X_lessons_121 : decode zy_X_lessons.2.1 121 = .ok (.getfield 230, 3) := by decide +kernel
theorem d_X_lessons_124 : decode zy_X_lessons.2.1 124 = .ok (.goto (10), 3) := by decide +kernel
theorem d_X_lessons_127 : decode zy_X_lessons.2.1 127 = .ok (.aload_n 0, 1) := by decide +kernel
theorem d_X_lessons_128 : decode zy_X_lessons.2.1 128 = .ok (.getfield 59, 3) := by decide +kernel
theorem d_X_lessons_131 : decode zy_X_lessons.2.1 131 = .ok (.getfield 233, 3) := by decide +kernel
theorem d_X_lessons_134 : decode zy_X_lessons.2.1 134 = .ok (.ireturn, 1) := by decide +kernel
theorem d_X_planWithout_0 : decode zy_X_planWithout.2.1 0 = .ok (.aload_n 0, 1) := by decide +kernel
theorem d_X_planWithout_1 : decode zy_X_planWithout.2.1 1 = .ok (.invokevirtual 197, 3) := by decide +kernel
theorem d_X_planWithout_4 : decode zy_X_planWithout.2.1 4 = .ok (.iload_n 1, 1) := by decide +kernel
theorem d_X_planWithout_5 : decode zy_X_planWithout.2.1 5 = .ok (.iconst (-1), 1) := by decide +kernel
theorem d_X_planWithout_6 : decode zy_X_planWithout.2.1 6 = .ok (.ixor, 1) := by decide +kernel
theorem d_X_planWithout_7 : decode zy_X_planWithout.2.1 7 = .ok (.iand, 1) := by decide +kernel
theorem d_X_planWithout_8 : decode zy_X_planWithout.2.1 8 = .ok (.istore_n 2, 1) := by decide +kernel
theorem d_X_planWithout_9 : decode zy_X_planWithout.2.1 9 = .ok (.aload_n 0, 1) := by decide +kernel
theorem d_X_planWithout_10 : decode zy_X_planWithout.2.1 10 = .ok (.iload_n 2, 1) := by decide +kernel
theorem d_X_planWithout_11 : decode zy_X_planWithout.2.1 11 = .ok (.invokevirtual 349, 3) := by decide +kernel
theorem d_X_planWithout_14 : decode zy_X_planWithout.2.1 14 = .ok (.aload_n 0, 1) := by decide +kernel
theorem d_X_planWithout_15 : decode zy_X_planWithout.2.1 15 = .ok (.getfield 52, 3) := by decide +kernel
theorem d_X_planWithout_18 : decode zy_X_planWithout.2.1 18 = .ok (.iload_n 2, 1) := by decide +kernel
theorem d_X_planWithout_19 : decode zy_X_planWithout.2.1 19 = .ok (.iconst 0, 1) := by decide +kernel
theorem d_X_planWithout_20 : decode zy_X_planWithout.2.1 20 = .ok (.invokevirtual 352, 3) := by decide +kernel
theorem d_X_planWithout_23 : decode zy_X_planWithout.2.1 23 = .ok (.aload_n 0, 1) := by decide +kernel
theorem d_X_planWithout_24 : decode zy_X_planWithout.2.1 24 = .ok (.getfield 52, 3) := by decide +kernel
theorem d_X_planWithout_27 : decode zy_X_planWithout.2.1 27 = .ok (.iload_n 2, 1) := by decide +kernel
theorem d_X_planWithout_28 : decode zy_X_planWithout.2.1 28 = .ok (.invokevirtual 355, 3) := by decide +kernel
theorem d_X_planWithout_31 : decode zy_X_planWithout.2.1 31 = .ok (.ireturn, 1) := by decide +kernel
theorem d_X_poorestThatFills_0 : decode zy_X_poorestThatFills.2.1 0 = .ok (.aload_n 0, 1) := by decide +kernel
theorem d_X_poorestThatFills_1 : decode zy_X_poorestThatFills.2.1 1 = .ok (.aload_n 0, 1) := by decide +kernel
theorem d_X_poorestThatFills_2 : decode zy_X_poorestThatFills.2.1 2 = .ok (.invokevirtual 197, 3) := by decide +kernel
theorem d_X_poorestThatFills_5 : decode zy_X_poorestThatFills.2.1 5 = .ok (.invokevirtual 349, 3) := by decide +kernel
theorem d_X_poorestThatFills_8 : decode zy_X_poorestThatFills.2.1 8 = .ok (.aload_n 0, 1) := by decide +kernel
theorem d_X_poorestThatFills_9 : decode zy_X_poorestThatFills.2.1 9 = .ok (.getfield 52, 3) := by decide +kernel
theorem d_X_poorestThatFills_12 : decode zy_X_poorestThatFills.2.1 12 = .ok (.aload_n 0, 1) := by decide +kernel
theorem d_X_poorestThatFills_13 : decode zy_X_poorestThatFills.2.1 13 = .ok (.invokevirtual 197, 3) := by decide +kernel
theorem d_X_poorestThatFills_16 : decode zy_X_poorestThatFills.2.1 16 = .ok (.iload_n 1, 1) := by decide +kernel
theorem d_X_poorestThatFills_17 : decode zy_X_poorestThatFills.2.1 17 = .ok (.invokevirtual 352, 3) := by decide +kernel
theorem d_X_poorestThatFills_20 : decode zy_X_poorestThatFills.2.1 20 = .ok (.iconst (-1), 1) := by decide +kernel
theorem d_X_poorestThatFills_21 : decode zy_X_poorestThatFills.2.1 21 = .ok (.istore_n 2, 1) := by decide +kernel
theorem d_X_poorestThatFills_22 : decode zy_X_poorestThatFills.2.1 22 = .ok (.iconst 0, 1) := by decide +kernel
theorem d_X_poorestThatFills_23 : decode zy_X_poorestThatFills.2.1 23 = .ok (.istore_n 3, 1) := by decide +kernel
theorem d_X_poorestThatFills_24 : decode zy_X_poorestThatFills.2.1 24 = .ok (.iconst 0, 1) := by decide +kernel
theorem d_X_poorestThatFills_25 : decode zy_X_poorestThatFills.2.1 25 = .ok (.istore 4, 2) := by decide +kernel
theorem d_X_poorestThatFills_27 : decode zy_X_poorestThatFills.2.1 27 = .ok (.iload 4, 2) := by decide +kernel
theorem d_X_poorestThatFills_29 : decode zy_X_poorestThatFills.2.1 29 = .ok (.aload_n 0, 1) := by decide +kernel
theorem d_X_poorestThatFills_30 : decode zy_X_poorestThatFills.2.1 30 = .ok (.invokevirtual 197, 3) := by decide +kernel
theorem d_X_poorestThatFills_33 : decode zy_X_poorestThatFills.2.1 33 = .ok (.if_icmp .gt (63), 3) := by decide +kernel
theorem d_X_poorestThatFills_36 : decode zy_X_poorestThatFills.2.1 36 = .ok (.iload 4, 2) := by decide +kernel
theorem d_X_poorestThatFills_38 : decode zy_X_poorestThatFills.2.1 38 = .ok (.invokestatic 301, 3) := by decide +kernel
theorem d_X_poorestThatFills_41 : decode zy_X_poorestThatFills.2.1 41 = .ok (.iload_n 1, 1) := by decide +kernel
theorem d_X_poorestThatFills_42 : decode zy_X_poorestThatFills.2.1 42 = .ok (.if_icmp .eq (6), 3) := by decide +kernel
theorem d_X_poorestThatFills_45 : decode zy_X_poorestThatFills.2.1 45 = .ok (.goto (45), 3) := by decide +kernel
theorem d_X_poorestThatFills_48 : decode zy_X_poorestThatFills.2.1 48 = .ok (.aload_n 0, 1) := by decide +kernel
theorem d_X_poorestThatFills_49 : decode zy_X_poorestThatFills.2.1 49 = .ok (.getfield 52, 3) := by decide +kernel
theorem d_X_poorestThatFills_52 : decode zy_X_poorestThatFills.2.1 52 = .ok (.getfield 368, 3) := by decide +kernel
theorem d_X_poorestThatFills_55 : decode zy_X_poorestThatFills.2.1 55 = .ok (.aload_n 0, 1) := by decide +kernel
theorem d_X_poorestThatFills_56 : decode zy_X_poorestThatFills.2.1 56 = .ok (.invokevirtual 197, 3) := by decide +kernel
theorem d_X_poorestThatFills_59 : decode zy_X_poorestThatFills.2.1 59 = .ok (.iload 4, 2) := by decide +kernel
theorem d_X_poorestThatFills_61 : decode zy_X_poorestThatFills.2.1 61 = .ok (.iconst (-1), 1) := by decide +kernel
theorem d_X_poorestThatFills_62 : decode zy_X_poorestThatFills.2.1 62 = .ok (.ixor, 1) := by decide +kernel
theorem d_X_poorestThatFills_63 : decode zy_X_poorestThatFills.2.1 63 = .ok (.iand, 1) := by decide +kernel
theorem d_X_poorestThatFills_64 : decode zy_X_poorestThatFills.2.1 64 = .ok (.iaload, 1) := by decide +kernel
theorem d_X_poorestThatFills_65 : decode zy_X_poorestThatFills.2.1 65 = .ok (.istore 5, 2) := by decide +kernel
theorem d_X_poorestThatFills_67 : decode zy_X_poorestThatFills.2.1 67 = .ok (.iload 5, 2) := by decide +kernel
theorem d_X_poorestThatFills_69 : decode zy_X_poorestThatFills.2.1 69 = .ok (.iconst (-1), 1) := by decide +kernel
theorem d_X_poorestThatFills_70 : decode zy_X_poorestThatFills.2.1 70 = .ok (.if_icmp .eq (20), 3) := by decide +kernel
theorem d_X_poorestThatFills_73 : decode zy_X_poorestThatFills.2.1 73 = .ok (.iload_n 2, 1) := by decide +kernel
theorem d_X_poorestThatFills_74 : decode zy_X_poorestThatFills.2.1 74 = .ok (.iconst (-1), 1) := by decide +kernel
theorem d_X_poorestThatFills_75 : decode zy_X_poorestThatFills.2.1 75 = .ok (.if_icmp .eq (9), 3) := by decide +kernel
theorem d_X_poorestThatFills_78 : decode zy_X_poorestThatFills.2.1 78 = .ok (.iload 5, 2) := by decide +kernel
theorem d_X_poorestThatFills_80 : decode zy_X_poorestThatFills.2.1 80 = .ok (.iload_n 3, 1) := by decide +kernel
theorem d_X_poorestThatFills_81 : decode zy_X_poorestThatFills.2.1 81 = .ok (.if_icmp .ge (9), 3) := by decide +kernel
theorem d_X_poorestThatFills_84 : decode zy_X_poorestThatFills.2.1 84 = .ok (.iload 4, 2) := by decide +kernel
theorem d_X_poorestThatFills_86 : decode zy_X_poorestThatFills.2.1 86 = .ok (.istore_n 2, 1) := by decide +kernel
theorem d_X_poorestThatFills_87 : decode zy_X_poorestThatFills.2.1 87 = .ok (.iload 5, 2) := by decide +kernel
theorem d_X_poorestThatFills_89 : decode zy_X_poorestThatFills.2.1 89 = .ok (.istore_n 3, 1) := by decide +kernel
theorem d_X_poorestThatFills_90 : decode zy_X_poorestThatFills.2.1 90 = .ok (.iinc 4 1, 3) := by decide +kernel
theorem d_X_poorestThatFills_93 : decode zy_X_poorestThatFills.2.1 93 = .ok (.goto (-66), 3) := by decide +kernel
theorem d_X_poorestThatFills_96 : decode zy_X_poorestThatFills.2.1 96 = .ok (.iload_n 2, 1) := by decide +kernel
theorem d_X_poorestThatFills_97 : decode zy_X_poorestThatFills.2.1 97 = .ok (.ireturn, 1) := by decide +kernel
theorem d_X_ring_0 : decode zy_X_ring.2.1 0 = .ok (.aload_n 0, 1) := by decide +kernel
theorem d_X_ring_1 : decode zy_X_ring.2.1 1 = .ok (.invokevirtual 194, 3) := by decide +kernel
theorem d_X_ring_4 : decode zy_X_ring.2.1 4 = .ok (.iconst 0, 1) := by decide +kernel
theorem d_X_ring_5 : decode zy_X_ring.2.1 5 = .ok (.istore_n 1, 1) := by decide +kernel
theorem d_X_ring_6 : decode zy_X_ring.2.1 6 = .ok (.iload_n 1, 1) := by decide +kernel
theorem d_X_ring_7 : decode zy_X_ring.2.1 7 = .ok (.aload_n 0, 1) := by decide +kernel
theorem d_X_ring_8 : decode zy_X_ring.2.1 8 = .ok (.getfield 22, 3) := by decide +kernel
theorem d_X_ring_11 : decode zy_X_ring.2.1 11 = .ok (.if_icmp .ge (63), 3) := by decide +kernel
theorem d_X_ring_14 : decode zy_X_ring.2.1 14 = .ok (.aload_n 0, 1) := by decide +kernel
theorem d_X_ring_15 : decode zy_X_ring.2.1 15 = .ok (.getfield 18, 3) := by decide +kernel
theorem d_X_ring_18 : decode zy_X_ring.2.1 18 = .ok (.iload_n 1, 1) := by decide +kernel
theorem d_X_ring_19 : decode zy_X_ring.2.1 19 = .ok (.iconst 1, 1) := by decide +kernel
theorem d_X_ring_20 : decode zy_X_ring.2.1 20 = .ok (.iadd, 1) := by decide +kernel
theorem d_X_ring_21 : decode zy_X_ring.2.1 21 = .ok (.aload_n 0, 1) := by decide +kernel
theorem d_X_ring_22 : decode zy_X_ring.2.1 22 = .ok (.getfield 22, 3) := by decide +kernel
theorem d_X_ring_25 : decode zy_X_ring.2.1 25 = .ok (.if_icmp .ge (9), 3) := by decide +kernel
theorem d_X_ring_28 : decode zy_X_ring.2.1 28 = .ok (.iload_n 1, 1) := by decide +kernel
theorem d_X_ring_29 : decode zy_X_ring.2.1 29 = .ok (.iconst 1, 1) := by decide +kernel
theorem d_X_ring_30 : decode zy_X_ring.2.1 30 = .ok (.iadd, 1) := by decide +kernel
theorem d_X_ring_31 : decode zy_X_ring.2.1 31 = .ok (.goto (4), 3) := by decide +kernel
theorem d_X_ring_34 : decode zy_X_ring.2.1 34 = .ok (.iconst 0, 1) := by decide +kernel
theorem d_X_ring_35 : decode zy_X_ring.2.1 35 = .ok (.aaload, 1) := by decide +kernel
theorem d_X_ring_36 : decode zy_X_ring.2.1 36 = .ok (.getfield 138, 3) := by decide +kernel
theorem d_X_ring_39 : decode zy_X_ring.2.1 39 = .ok (.istore_n 2, 1) := by decide +kernel
theorem d_X_ring_40 : decode zy_X_ring.2.1 40 = .ok (.aload_n 0, 1) := by decide +kernel
theorem d_X_ring_41 : decode zy_X_ring.2.1 41 = .ok (.getfield 18, 3) := by decide +kernel
theorem d_X_ring_44 : decode zy_X_ring.2.1 44 = .ok (.iload_n 1, 1) := by decide +kernel
theorem d_X_ring_45 : decode zy_X_ring.2.1 45 = .ok (.aaload, 1) := by decide +kernel
theorem d_X_ring_46 : decode zy_X_ring.2.1 46 = .ok (.iload_n 2, 1) := by decide +kernel
theorem d_X_ring_47 : decode zy_X_ring.2.1 47 = .ok (.invokevirtual 135, 3) := by decide +kernel
theorem d_X_ring_50 : decode zy_X_ring.2.1 50 = .ok (.ifCond .ne (18), 3) := by decide +kernel
theorem d_X_ring_53 : decode zy_X_ring.2.1 53 = .ok (.aload_n 0, 1) := by decide +kernel
theorem d_X_ring_54 : decode zy_X_ring.2.1 54 = .ok (.getfield 45, 3) := by decide +kernel
theorem d_X_ring_57 : decode zy_X_ring.2.1 57 = .ok (.getfield 236, 3) := by decide +kernel
theorem d_X_ring_60 : decode zy_X_ring.2.1 60 = .ok (.iload_n 2, 1) := by decide +kernel
theorem d_X_ring_61 : decode zy_X_ring.2.1 61 = .ok (.dup2, 1) := by decide +kernel
theorem d_X_ring_62 : decode zy_X_ring.2.1 62 = .ok (.iaload, 1) := by decide +kernel
theorem d_X_ring_63 : decode zy_X_ring.2.1 63 = .ok (.iconst 1, 1) := by decide +kernel
theorem d_X_ring_64 : decode zy_X_ring.2.1 64 = .ok (.iload_n 1, 1) := by decide +kernel
theorem d_X_ring_65 : decode zy_X_ring.2.1 65 = .ok (.ishl, 1) := by decide +kernel
theorem d_X_ring_66 : decode zy_X_ring.2.1 66 = .ok (.ior, 1) := by decide +kernel
theorem d_X_ring_67 : decode zy_X_ring.2.1 67 = .ok (.iastore, 1) := by decide +kernel
theorem d_X_ring_68 : decode zy_X_ring.2.1 68 = .ok (.iinc 1 1, 3) := by decide +kernel
theorem d_X_ring_71 : decode zy_X_ring.2.1 71 = .ok (.goto (-65), 3) := by decide +kernel
theorem d_X_ring_74 : decode zy_X_ring.2.1 74 = .ok (.aload_n 0, 1) := by decide +kernel
theorem d_X_ring_75 : decode zy_X_ring.2.1 75 = .ok (.getfield 45, 3) := by decide +kernel
theorem d_X_ring_78 : decode zy_X_ring.2.1 78 = .ok (.invokevirtual 239, 3) := by decide +kernel
theorem d_X_ring_81 : decode zy_X_ring.2.1 81 = .ok (.iconst (-1), 1) := by decide +kernel
theorem d_X_ring_82 : decode zy_X_ring.2.1 82 = .ok (.istore_n 1, 1) := by decide +kernel
theorem d_X_ring_83 : decode zy_X_ring.2.1 83 = .ok (.iconst 0, 1) := by decide +kernel
theorem d_X_ring_84 : decode zy_X_ring.2.1 84 = .ok (.istore_n 2, 1) := by decide +kernel
theorem d_X_ring_85 : decode zy_X_ring.2.1 85 = .ok (.iload_n 2, 1) := by decide +kernel
theorem d_X_ring_86 : decode zy_X_ring.2.1 86 = .ok (.aload_n 0, 1) := by decide +kernel
theorem d_X_ring_87 : decode zy_X_ring.2.1 87 = .ok (.getfield 22, 3) := by decide +kernel
theorem d_X_ring_90 : decode zy_X_ring.2.1 90 = .ok (.if_icmp .gt (26), 3) := by decide +kernel
theorem d_X_ring_93 : decode zy_X_ring.2.1 93 = .ok (.aload_n 0, 1) := by decide +kernel
theorem d_X_ring_94 : decode zy_X_ring.2.1 94 = .ok (.getfield 45, 3) := by decide +kernel
theorem d_X_ring_97 : decode zy_X_ring.2.1 97 = .ok (.iload_n 2, 1) := by decide +kernel
theorem d_X_ring_98 : decode zy_X_ring.2.1 98 = .ok (.aload_n 0, 1) := by decide +kernel
theorem d_X_ring_99 : decode zy_X_ring.2.1 99 = .ok (.getfield 22, 3) := by decide +kernel
theorem d_X_ring_102 : decode zy_X_ring.2.1 102 = .ok (.invokevirtual 203, 3) := by decide +kernel
theorem d_X_ring_105 : decode zy_X_ring.2.1 105 = .ok (.ifCond .eq (11), 3) := by decide +kernel
theorem d_X_ring_108 : decode zy_X_ring.2.1 108 = .ok (.iload_n 2, 1) := by decide +kernel
theorem d_X_ring_109 : decode zy_X_ring.2.1 109 = .ok (.istore_n 1, 1) := by decide +kernel
theorem d_X_ring_110 : decode zy_X_ring.2.1 110 = .ok (.iinc 2 1, 3) := by decide +kernel
theorem d_X_ring_113 : decode zy_X_ring.2.1 113 = .ok (.goto (-28), 3) := by decide +kernel
theorem d_X_ring_116 : decode zy_X_ring.2.1 116 = .ok (.iload_n 1, 1) := by decide +kernel
theorem d_X_ring_117 : decode zy_X_ring.2.1 117 = .ok (.ireturn, 1) := by decide +kernel
theorem d_X_sure_0 : decode zy_X_sure.2.1 0 = .ok (.iload_n 1, 1) := by decide +kernel
theorem d_X_sure_1 : decode zy_X_sure.2.1 1 = .ok (.invokestatic 114, 3) := by decide +kernel
theorem d_X_sure_4 : decode zy_X_sure.2.1 4 = .ok (.ifCond .ne (7), 3) := by decide +kernel
theorem d_X_sure_7 : decode zy_X_sure.2.1 7 = .ok (.ldc2_w 242, 3) := by decide +kernel
theorem d_X_sure_10 : decode zy_X_sure.2.1 10 = .ok (.lreturn, 1) := by decide +kernel
theorem d_X_sure_11 : decode zy_X_sure.2.1 11 = .ok (.aload_n 0, 1) := by decide +kernel
theorem d_X_sure_12 : decode zy_X_sure.2.1 12 = .ok (.invokevirtual 194, 3) := by decide +kernel
theorem d_X_sure_15 : decode zy_X_sure.2.1 15 = .ok (.lconst 0, 1) := by decide +kernel
theorem d_X_sure_16 : decode zy_X_sure.2.1 16 = .ok (.lstore_n 2, 1) := by decide +kernel
theorem d_X_sure_17 : decode zy_X_sure.2.1 17 = .ok (.lconst 1, 1) := by decide +kernel
theorem d_X_sure_18 : decode zy_X_sure.2.1 18 = .ok (.lstore 4, 2) := by decide +kernel
theorem d_X_sure_20 : decode zy_X_sure.2.1 20 = .ok (.iconst 0, 1) := by decide +kernel
theorem d_X_sure_21 : decode zy_X_sure.2.1 21 = .ok (.istore 6, 2) := by decide +kernel
theorem d_X_sure_23 : decode zy_X_sure.2.1 23 = .ok (.iload 6, 2) := by decide +kernel
theorem d_X_sure_25 : decode zy_X_sure.2.1 25 = .ok (.aload_n 0, 1) := by decide +kernel
theorem d_X_sure_26 : decode zy_X_sure.2.1 26 = .ok (.getfield 22, 3) := by decide +kernel
theorem d_X_sure_29 : decode zy_X_sure.2.1 29 = .ok (.if_icmp .ge (17), 3) := by decide +kernel
theorem d_X_sure_32 : decode zy_X_sure.2.1 32 = .ok (.lload 4, 2) := by decide +kernel
theorem d_X_sure_34 : decode zy_X_sure.2.1 34 = .ok (.ldc2_w 244, 3) := by decide +kernel
theorem d_X_sure_37 : decode zy_X_sure.2.1 37 = .ok (.lmul, 1) := by decide +kernel
theorem d_X_sure_38 : decode zy_X_sure.2.1 38 = .ok (.lstore 4, 2) := by decide +kernel
theorem d_X_sure_40 : decode zy_X_sure.2.1 40 = .ok (.iinc 6 1, 3) := by decide +kernel
theorem d_X_sure_43 : decode zy_X_sure.2.1 43 = .ok (.goto (-20), 3) := by decide +kernel
theorem d_X_sure_46 : decode zy_X_sure.2.1 46 = .ok (.iconst 0, 1) := by decide +kernel
theorem d_X_sure_47 : decode zy_X_sure.2.1 47 = .ok (.istore 6, 2) := by decide +kernel
theorem d_X_sure_49 : decode zy_X_sure.2.1 49 = .ok (.iload 6, 2) := by decide +kernel
theorem d_X_sure_51 : decode zy_X_sure.2.1 51 = .ok (.aload_n 0, 1) := by decide +kernel
theorem d_X_sure_52 : decode zy_X_sure.2.1 52 = .ok (.invokevirtual 197, 3) := by decide +kernel
theorem d_X_sure_55 : decode zy_X_sure.2.1 55 = .ok (.if_icmp .gt (38), 3) := by decide +kernel
theorem d_X_sure_58 : decode zy_X_sure.2.1 58 = .ok (.aload_n 0, 1) := by decide +kernel
theorem d_X_sure_59 : decode zy_X_sure.2.1 59 = .ok (.getfield 45, 3) := by decide +kernel
theorem d_X_sure_62 : decode zy_X_sure.2.1 62 = .ok (.aload_n 0, 1) := by decide +kernel
theorem d_X_sure_63 : decode zy_X_sure.2.1 63 = .ok (.invokevirtual 197, 3) := by decide +kernel
theorem d_X_sure_66 : decode zy_X_sure.2.1 66 = .ok (.iload 6, 2) := by decide +kernel
theorem d_X_sure_68 : decode zy_X_sure.2.1 68 = .ok (.iconst (-1), 1) := by decide +kernel
theorem d_X_sure_69 : decode zy_X_sure.2.1 69 = .ok (.ixor, 1) := by decide +kernel
theorem d_X_sure_70 : decode zy_X_sure.2.1 70 = .ok (.iand, 1) := by decide +kernel
theorem d_X_sure_71 : decode zy_X_sure.2.1 71 = .ok (.invokevirtual 200, 3) := by decide +kernel
theorem d_X_sure_74 : decode zy_X_sure.2.1 74 = .ok (.iconst (-1), 1) := by decide +kernel
theorem d_X_sure_75 : decode zy_X_sure.2.1 75 = .ok (.if_icmp .ne (12), 3) := by decide +kernel
theorem d_X_sure_78 : decode zy_X_sure.2.1 78 = .ok (.lload_n 2, 1) := by decide +kernel
theorem d_X_sure_79 : decode zy_X_sure.2.1 79 = .ok (.aload_n 0, 1) := by decide +kernel
theorem d_X_sure_80 : decode zy_X_sure.2.1 80 = .ok (.iload 6, 2) := by decide +kernel
theorem d_X_sure_82 : decode zy_X_sure.2.1 82 = .ok (.invokevirtual 246, 3) := by decide +kernel
theorem d_X_sure_85 : decode zy_X_sure.2.1 85 = .ok (.ladd, 1) := by decide +kernel
theorem d_X_sure_86 : decode zy_X_sure.2.1 86 = .ok (.lstore_n 2, 1) := by decide +kernel
theorem d_X_sure_87 : decode zy_X_sure.2.1 87 = .ok (.iinc 6 1, 3) := by decide +kernel
theorem d_X_sure_90 : decode zy_X_sure.2.1 90 = .ok (.goto (-41), 3) := by decide +kernel
theorem d_X_sure_93 : decode zy_X_sure.2.1 93 = .ok (.lload 4, 2) := by decide +kernel
theorem d_X_sure_95 : decode zy_X_sure.2.1 95 = .ok (.lload_n 2, 1) := by decide +kernel
theorem d_X_sure_96 : decode zy_X_sure.2.1 96 = .ok (.invokestatic 250, 3) := by decide +kernel
theorem d_X_sure_99 : decode zy_X_sure.2.1 99 = .ok (.lstore 6, 2) := by decide +kernel
theorem d_X_sure_101 : decode zy_X_sure.2.1 101 = .ok (.iload_n 1, 1) := by decide +kernel
theorem d_X_sure_102 : decode zy_X_sure.2.1 102 = .ok (.ifCond .ne (7), 3) := by decide +kernel
theorem d_X_sure_105 : decode zy_X_sure.2.1 105 = .ok (.lload_n 2, 1) := by decide +kernel
theorem d_X_sure_106 : decode zy_X_sure.2.1 106 = .ok (.goto (5), 3) := by decide +kernel
theorem d_X_sure_109 : decode zy_X_sure.2.1 109 = .ok (.lload 4, 2) := by decide +kernel
theorem d_X_sure_111 : decode zy_X_sure.2.1 111 = .ok (.lload 6, 2) := by decide +kernel
theorem d_X_sure_113 : decode zy_X_sure.2.1 113 = .ok (.lconst 0, 1) := by decide +kernel
theorem d_X_sure_114 : decode zy_X_sure.2.1 114 = .ok (.lcmp, 1) := by decide +kernel
theorem d_X_sure_115 : decode zy_X_sure.2.1 115 = .ok (.ifCond .le (8), 3) := by decide +kernel
theorem d_X_sure_118 : decode zy_X_sure.2.1 118 = .ok (.lload 6, 2) := by decide +kernel
theorem d_X_sure_120 : decode zy_X_sure.2.1 120 = .ok (.goto (4), 3) := by decide +kernel
theorem d_X_sure_123 : decode zy_X_sure.2.1 123 = .ok (.lconst 1, 1) := by decide +kernel
theorem d_X_sure_124 : decode zy_X_sure.2.1 124 = .ok (.ldiv, 1) := by decide +kernel
theorem d_X_sure_125 : decode zy_X_sure.2.1 125 = .ok (.lreturn, 1) := by decide +kernel
theorem d_X_told_0 : decode zy_X_told.2.1 0 = .ok (.aload_n 0, 1) := by decide +kernel
theorem d_X_told_1 : decode zy_X_told.2.1 1 = .ok (.iload_n 1, 1) := by decide +kernel
theorem d_X_told_2 : decode zy_X_told.2.1 2 = .ok (.invokevirtual 129, 3) := by decide +kernel
theorem d_X_told_5 : decode zy_X_told.2.1 5 = .ok (.ifCond .eq (30), 3) := by decide +kernel
theorem d_X_told_8 : decode zy_X_told.2.1 8 = .ok (.iload_n 3, 1) := by decide +kernel
theorem d_X_told_9 : decode zy_X_told.2.1 9 = .ok (.ifCond .lt (26), 3) := by decide +kernel
theorem d_X_told_12 : decode zy_X_told.2.1 12 = .ok (.iload_n 3, 1) := by decide +kernel
theorem d_X_told_13 : decode zy_X_told.2.1 13 = .ok (.bipush 9, 2) := by decide +kernel
theorem d_X_told_15 : decode zy_X_told.2.1 15 = .ok (.if_icmp .gt (20), 3) := by decide +kernel
theorem d_X_told_18 : decode zy_X_told.2.1 18 = .ok (.iload_n 3, 1) := by decide +kernel
theorem d_X_told_19 : decode zy_X_told.2.1 19 = .ok (.bipush 7, 2) := by decide +kernel
theorem d_X_told_21 : decode zy_X_told.2.1 21 = .ok (.if_icmp .lt (17), 3) := by decide +kernel
theorem d_X_told_24 : decode zy_X_told.2.1 24 = .ok (.aload_n 0, 1) := by decide +kernel
theorem d_X_told_25 : decode zy_X_told.2.1 25 = .ok (.getfield 10, 3) := by decide +kernel
theorem d_X_told_28 : decode zy_X_told.2.1 28 = .ok (.iload_n 2, 1) := by decide +kernel
theorem d_X_told_29 : decode zy_X_told.2.1 29 = .ok (.invokevirtual 132, 3) := by decide +kernel
theorem d_X_told_32 : decode zy_X_told.2.1 32 = .ok (.ifCond .ne (6), 3) := by decide +kernel
theorem d_X_told_35 : decode zy_X_told.2.1 35 = .ok (.bipush (-5), 2) := by decide +kernel
theorem d_X_told_37 : decode zy_X_told.2.1 37 = .ok (.ireturn, 1) := by decide +kernel
theorem d_X_told_38 : decode zy_X_told.2.1 38 = .ok (.aload_n 0, 1) := by decide +kernel
theorem d_X_told_39 : decode zy_X_told.2.1 39 = .ok (.getfield 18, 3) := by decide +kernel
theorem d_X_told_42 : decode zy_X_told.2.1 42 = .ok (.iload_n 1, 1) := by decide +kernel
theorem d_X_told_43 : decode zy_X_told.2.1 43 = .ok (.aaload, 1) := by decide +kernel
theorem d_X_told_44 : decode zy_X_told.2.1 44 = .ok (.astore 4, 2) := by decide +kernel
theorem d_X_told_46 : decode zy_X_told.2.1 46 = .ok (.iload_n 3, 1) := by decide +kernel
theorem d_X_told_47 : decode zy_X_told.2.1 47 = .ok (.tableswitch (122) (0) (8) #[49, 55, 61, 67, 73, 79, 89, 95, 114], 49) := by decide +kernel
theorem d_X_told_96 : decode zy_X_told.2.1 96 = .ok (.aload 4, 2) := by decide +kernel
theorem d_X_told_98 : decode zy_X_told.2.1 98 = .ok (.getfield 151, 3) := by decide +kernel
theorem d_X_told_101 : decode zy_X_told.2.1 101 = .ok (.ireturn, 1) := by decide +kernel
theorem d_X_told_102 : decode zy_X_told.2.1 102 = .ok (.aload 4, 2) := by decide +kernel
theorem d_X_told_104 : decode zy_X_told.2.1 104 = .ok (.getfield 138, 3) := by decide +kernel
theorem d_X_told_107 : decode zy_X_told.2.1 107 = .ok (.ireturn, 1) := by decide +kernel
theorem d_X_told_108 : decode zy_X_told.2.1 108 = .ok (.aload 4, 2) := by decide +kernel
theorem d_X_told_110 : decode zy_X_told.2.1 110 = .ok (.getfield 154, 3) := by decide +kernel
theorem d_X_told_113 : decode zy_X_told.2.1 113 = .ok (.ireturn, 1) := by decide +kernel
theorem d_X_told_114 : decode zy_X_told.2.1 114 = .ok (.aload 4, 2) := by decide +kernel
theorem d_X_told_116 : decode zy_X_told.2.1 116 = .ok (.getfield 157, 3) := by decide +kernel
theorem d_X_told_119 : decode zy_X_told.2.1 119 = .ok (.ireturn, 1) := by decide +kernel
theorem d_X_told_120 : decode zy_X_told.2.1 120 = .ok (.aload 4, 2) := by decide +kernel
theorem d_X_told_122 : decode zy_X_told.2.1 122 = .ok (.invokevirtual 160, 3) := by decide +kernel
theorem d_X_told_125 : decode zy_X_told.2.1 125 = .ok (.ireturn, 1) := by decide +kernel
theorem d_X_told_126 : decode zy_X_told.2.1 126 = .ok (.aload 4, 2) := by decide +kernel
theorem d_X_told_128 : decode zy_X_told.2.1 128 = .ok (.aload_n 0, 1) := by decide +kernel
theorem d_X_told_129 : decode zy_X_told.2.1 129 = .ok (.getfield 10, 3) := by decide +kernel
theorem d_X_told_132 : decode zy_X_told.2.1 132 = .ok (.invokevirtual 163, 3) := by decide +kernel
theorem d_X_told_135 : decode zy_X_told.2.1 135 = .ok (.ireturn, 1) := by decide +kernel
theorem d_X_told_136 : decode zy_X_told.2.1 136 = .ok (.aload 4, 2) := by decide +kernel
theorem d_X_told_138 : decode zy_X_told.2.1 138 = .ok (.getfield 167, 3) := by decide +kernel
theorem d_X_told_141 : decode zy_X_told.2.1 141 = .ok (.ireturn, 1) := by decide +kernel
theorem d_X_told_142 : decode zy_X_told.2.1 142 = .ok (.aload 4, 2) := by decide +kernel
theorem d_X_told_144 : decode zy_X_told.2.1 144 = .ok (.iload_n 2, 1) := by decide +kernel
theorem d_X_told_145 : decode zy_X_told.2.1 145 = .ok (.aload_n 0, 1) := by decide +kernel
theorem d_X_told_146 : decode zy_X_told.2.1 146 = .ok (.getfield 10, 3) := by decide +kernel
theorem d_X_told_149 : decode zy_X_told.2.1 149 = .ok (.invokevirtual 170, 3) := by decide +kernel
theorem d_X_told_152 : decode zy_X_told.2.1 152 = .ok (.ifCond .eq (7), 3) := by decide +kernel
theorem d_X_told_155 : decode zy_X_told.2.1 155 = .ok (.iconst 1, 1) := by decide +kernel
theorem d_X_told_156 : decode zy_X_told.2.1 156 = .ok (.goto (4), 3) := by decide +kernel
theorem d_X_told_159 : decode zy_X_told.2.1 159 = .ok (.iconst 0, 1) := by decide +kernel
theorem d_X_told_160 : decode zy_X_told.2.1 160 = .ok (.ireturn, 1) := by decide +kernel
theorem d_X_told_161 : decode zy_X_told.2.1 161 = .ok (.aload_n 0, 1) := by decide +kernel
theorem d_X_told_162 : decode zy_X_told.2.1 162 = .ok (.aload 4, 2) := by decide +kernel
theorem d_X_told_164 : decode zy_X_told.2.1 164 = .ok (.iload_n 2, 1) := by decide +kernel
theorem d_X_told_165 : decode zy_X_told.2.1 165 = .ok (.invokevirtual 174, 3) := by decide +kernel
theorem d_X_told_168 : decode zy_X_told.2.1 168 = .ok (.ireturn, 1) := by decide +kernel
theorem d_X_told_169 : decode zy_X_told.2.1 169 = .ok (.aload_n 0, 1) := by decide +kernel
theorem d_X_told_170 : decode zy_X_told.2.1 170 = .ok (.aload 4, 2) := by decide +kernel
theorem d_X_told_172 : decode zy_X_told.2.1 172 = .ok (.iload_n 2, 1) := by decide +kernel
theorem d_X_told_173 : decode zy_X_told.2.1 173 = .ok (.invokevirtual 178, 3) := by decide +kernel
theorem d_X_told_176 : decode zy_X_told.2.1 176 = .ok (.ireturn, 1) := by decide +kernel
theorem d_X_wages_0 : decode zy_X_wages.2.1 0 = .ok (.aload_n 0, 1) := by decide +kernel
theorem d_X_wages_1 : decode zy_X_wages.2.1 1 = .ok (.iconst 2, 1) := by decide +kernel
theorem d_X_wages_2 : decode zy_X_wages.2.1 2 = .ok (.aload_n 1, 1) := by decide +kernel
theorem d_X_wages_3 : decode zy_X_wages.2.1 3 = .ok (.aload_n 1, 1) := by decide +kernel
theorem d_X_wages_4 : decode zy_X_wages.2.1 4 = .ok (.getfield 138, 3) := by decide +kernel
theorem d_X_wages_7 : decode zy_X_wages.2.1 7 = .ok (.invokevirtual 342, 3) := by decide +kernel
theorem d_X_wages_10 : decode zy_X_wages.2.1 10 = .ok (.iconst 0, 1) := by decide +kernel
theorem d_X_wages_11 : decode zy_X_wages.2.1 11 = .ok (.sipush 999, 3) := by decide +kernel
theorem d_X_wages_14 : decode zy_X_wages.2.1 14 = .ok (.invokestatic 345, 3) := by decide +kernel
theorem d_X_wages_17 : decode zy_X_wages.2.1 17 = .ok (.aload_n 1, 1) := by decide +kernel
theorem d_X_wages_18 : decode zy_X_wages.2.1 18 = .ok (.aload_n 0, 1) := by decide +kernel
theorem d_X_wages_19 : decode zy_X_wages.2.1 19 = .ok (.getfield 10, 3) := by decide +kernel
theorem d_X_wages_22 : decode zy_X_wages.2.1 22 = .ok (.invokevirtual 163, 3) := by decide +kernel
theorem d_X_wages_25 : decode zy_X_wages.2.1 25 = .ok (.imul, 1) := by decide +kernel
theorem d_X_wages_26 : decode zy_X_wages.2.1 26 = .ok (.ireturn, 1) := by decide +kernel
theorem d_X_done_0 : decode zy_X_done.2.1 0 = .ok (.aload_n 0, 1) := by decide +kernel
theorem d_X_done_1 : decode zy_X_done.2.1 1 = .ok (.iload_n 1, 1) := by decide +kernel
theorem d_X_done_2 : decode zy_X_done.2.1 2 = .ok (.invokevirtual 184, 3) := by decide +kernel
theorem d_X_done_5 : decode zy_X_done.2.1 5 = .ok (.ifCond .ne (6), 3) := by decide +kernel
theorem d_X_done_8 : decode zy_X_done.2.1 8 = .ok (.bipush (-2), 2) := by decide +kernel
theorem d_X_done_10 : decode zy_X_done.2.1 10 = .ok (.ireturn, 1) := by decide +kernel
theorem d_X_done_11 : decode zy_X_done.2.1 11 = .ok (.aload_n 0, 1) := by decide +kernel
theorem d_X_done_12 : decode zy_X_done.2.1 12 = .ok (.iload_n 1, 1) := by decide +kernel
theorem d_X_done_13 : decode zy_X_done.2.1 13 = .ok (.invokevirtual 187, 3) := by decide +kernel
theorem d_X_done_16 : decode zy_X_done.2.1 16 = .ok (.iconst (-1), 1) := by decide +kernel
theorem d_X_done_17 : decode zy_X_done.2.1 17 = .ok (.if_icmp .ne (6), 3) := by decide +kernel
theorem d_X_done_20 : decode zy_X_done.2.1 20 = .ok (.bipush (-3), 2) := by decide +kernel
theorem d_X_done_22 : decode zy_X_done.2.1 22 = .ok (.ireturn, 1) := by decide +kernel
theorem d_X_done_23 : decode zy_X_done.2.1 23 = .ok (.iconst 0, 1) := by decide +kernel
theorem d_X_done_24 : decode zy_X_done.2.1 24 = .ok (.istore_n 2, 1) := by decide +kernel
theorem d_X_done_25 : decode zy_X_done.2.1 25 = .ok (.iconst 0, 1) := by decide +kernel
theorem d_X_done_26 : decode zy_X_done.2.1 26 = .ok (.istore_n 3, 1) := by decide +kernel
theorem d_X_done_27 : decode zy_X_done.2.1 27 = .ok (.iload_n 3, 1) := by decide +kernel
theorem d_X_done_28 : decode zy_X_done.2.1 28 = .ok (.aload_n 0, 1) := by decide +kernel
theorem d_X_done_29 : decode zy_X_done.2.1 29 = .ok (.getfield 10, 3) := by decide +kernel
theorem d_X_done_32 : decode zy_X_done.2.1 32 = .ok (.getfield 254, 3) := by decide +kernel
theorem d_X_done_35 : decode zy_X_done.2.1 35 = .ok (.if_icmp .ge (50), 3) := by decide +kernel
theorem d_X_done_38 : decode zy_X_done.2.1 38 = .ok (.aload_n 0, 1) := by decide +kernel
theorem d_X_done_39 : decode zy_X_done.2.1 39 = .ok (.getfield 52, 3) := by decide +kernel
theorem d_X_done_42 : decode zy_X_done.2.1 42 = .ok (.getfield 191, 3) := by decide +kernel
theorem d_X_done_45 : decode zy_X_done.2.1 45 = .ok (.iload_n 3, 1) := by decide +kernel
theorem d_X_done_46 : decode zy_X_done.2.1 46 = .ok (.iaload, 1) := by decide +kernel
theorem d_X_done_47 : decode zy_X_done.2.1 47 = .ok (.istore 4, 2) := by decide +kernel
theorem d_X_done_49 : decode zy_X_done.2.1 49 = .ok (.aload_n 0, 1) := by decide +kernel
theorem d_X_done_50 : decode zy_X_done.2.1 50 = .ok (.iload 4, 2) := by decide +kernel
theorem d_X_done_52 : decode zy_X_done.2.1 52 = .ok (.invokevirtual 129, 3) := by decide +kernel
theorem d_X_done_55 : decode zy_X_done.2.1 55 = .ok (.ifCond .eq (24), 3) := by decide +kernel
theorem d_X_done_58 : decode zy_X_done.2.1 58 = .ok (.aload_n 0, 1) := by decide +kernel
theorem d_X_done_59 : decode zy_X_done.2.1 59 = .ok (.getfield 18, 3) := by decide +kernel
theorem d_X_done_62 : decode zy_X_done.2.1 62 = .ok (.iload 4, 2) := by decide +kernel
theorem d_X_done_64 : decode zy_X_done.2.1 64 = .ok (.aaload, 1) := by decide +kernel
theorem d_X_done_65 : decode zy_X_done.2.1 65 = .ok (.iload_n 3, 1) := by decide +kernel
theorem d_X_done_66 : decode zy_X_done.2.1 66 = .ok (.aload_n 0, 1) := by decide +kernel
theorem d_X_done_67 : decode zy_X_done.2.1 67 = .ok (.getfield 10, 3) := by decide +kernel
theorem d_X_done_70 : decode zy_X_done.2.1 70 = .ok (.getfield 126, 3) := by decide +kernel
theorem d_X_done_73 : decode zy_X_done.2.1 73 = .ok (.invokevirtual 255, 3) := by decide +kernel
theorem d_X_done_76 : decode zy_X_done.2.1 76 = .ok (.iinc 2 1, 3) := by decide +kernel
theorem d_X_done_79 : decode zy_X_done.2.1 79 = .ok (.iinc 3 1, 3) := by decide +kernel
theorem d_X_done_82 : decode zy_X_done.2.1 82 = .ok (.goto (-55), 3) := by decide +kernel
theorem d_X_done_85 : decode zy_X_done.2.1 85 = .ok (.iload_n 2, 1) := by decide +kernel
theorem d_X_done_86 : decode zy_X_done.2.1 86 = .ok (.ireturn, 1) := by decide +kernel
theorem d_X_fill_0 : decode zy_X_fill.2.1 0 = .ok (.aload_n 0, 1) := by decide +kernel
theorem d_X_fill_1 : decode zy_X_fill.2.1 1 = .ok (.iload_n 1, 1) := by decide +kernel
theorem d_X_fill_2 : decode zy_X_fill.2.1 2 = .ok (.invokevirtual 184, 3) := by decide +kernel
theorem d_X_fill_5 : decode zy_X_fill.2.1 5 = .ok (.ifCond .eq (19), 3) := by decide +kernel
theorem d_X_fill_8 : decode zy_X_fill.2.1 8 = .ok (.iload_n 2, 1) := by decide +kernel
theorem d_X_fill_9 : decode zy_X_fill.2.1 9 = .ok (.iconst (-1), 1) := by decide +kernel
theorem d_X_fill_10 : decode zy_X_fill.2.1 10 = .ok (.if_icmp .eq (17), 3) := by decide +kernel
theorem d_X_fill_13 : decode zy_X_fill.2.1 13 = .ok (.aload_n 0, 1) := by decide +kernel
theorem d_X_fill_14 : decode zy_X_fill.2.1 14 = .ok (.getfield 10, 3) := by decide +kernel
theorem d_X_fill_17 : decode zy_X_fill.2.1 17 = .ok (.iload_n 2, 1) := by decide +kernel
theorem d_X_fill_18 : decode zy_X_fill.2.1 18 = .ok (.invokevirtual 132, 3) := by decide +kernel
theorem d_X_fill_21 : decode zy_X_fill.2.1 21 = .ok (.ifCond .ne (6), 3) := by decide +kernel
theorem d_X_fill_24 : decode zy_X_fill.2.1 24 = .ok (.bipush (-2), 2) := by decide +kernel
theorem d_X_fill_26 : decode zy_X_fill.2.1 26 = .ok (.ireturn, 1) := by decide +kernel
theorem d_X_fill_27 : decode zy_X_fill.2.1 27 = .ok (.aload_n 0, 1) := by decide +kernel
theorem d_X_fill_28 : decode zy_X_fill.2.1 28 = .ok (.iload_n 1, 1) := by decide +kernel
theorem d_X_fill_29 : decode zy_X_fill.2.1 29 = .ok (.invokevirtual 187, 3) := by decide +kernel
theorem d_X_fill_32 : decode zy_X_fill.2.1 32 = .ok (.istore_n 3, 1) := by decide +kernel
theorem d_X_fill_33 : decode zy_X_fill.2.1 33 = .ok (.iload_n 3, 1) := by decide +kernel
theorem d_X_fill_34 : decode zy_X_fill.2.1 34 = .ok (.iconst (-1), 1) := by decide +kernel
theorem d_X_fill_35 : decode zy_X_fill.2.1 35 = .ok (.if_icmp .ne (6), 3) := by decide +kernel
theorem d_X_fill_38 : decode zy_X_fill.2.1 38 = .ok (.bipush (-3), 2) := by decide +kernel
theorem d_X_fill_40 : decode zy_X_fill.2.1 40 = .ok (.ireturn, 1) := by decide +kernel
theorem d_X_fill_41 : decode zy_X_fill.2.1 41 = .ok (.iload_n 2, 1) := by decide +kernel
theorem d_X_fill_42 : decode zy_X_fill.2.1 42 = .ok (.iconst (-1), 1) := by decide +kernel
theorem d_X_fill_43 : decode zy_X_fill.2.1 43 = .ok (.if_icmp .ne (7), 3) := by decide +kernel
theorem d_X_fill_46 : decode zy_X_fill.2.1 46 = .ok (.iload_n 3, 1) := by decide +kernel
theorem d_X_fill_47 : decode zy_X_fill.2.1 47 = .ok (.goto (12), 3) := by decide +kernel
theorem d_X_fill_50 : decode zy_X_fill.2.1 50 = .ok (.aload_n 0, 1) := by decide +kernel
theorem d_X_fill_51 : decode zy_X_fill.2.1 51 = .ok (.getfield 52, 3) := by decide +kernel
theorem d_X_fill_54 : decode zy_X_fill.2.1 54 = .ok (.getfield 191, 3) := by decide +kernel
theorem d_X_fill_57 : decode zy_X_fill.2.1 57 = .ok (.iload_n 2, 1) := by decide +kernel
theorem d_X_fill_58 : decode zy_X_fill.2.1 58 = .ok (.iaload, 1) := by decide +kernel
theorem d_X_fill_59 : decode zy_X_fill.2.1 59 = .ok (.ireturn, 1) := by decide +kernel
theorem d_X_pay_0 : decode zy_X_pay.2.1 0 = .ok (.iload_n 1, 1) := by decide +kernel
theorem d_X_pay_1 : decode zy_X_pay.2.1 1 = .ok (.iconst (-1), 1) := by decide +kernel
theorem d_X_pay_2 : decode zy_X_pay.2.1 2 = .ok (.if_icmp .eq (14), 3) := by decide +kernel
theorem d_X_pay_5 : decode zy_X_pay.2.1 5 = .ok (.aload_n 0, 1) := by decide +kernel
theorem d_X_pay_6 : decode zy_X_pay.2.1 6 = .ok (.iload_n 1, 1) := by decide +kernel
theorem d_X_pay_7 : decode zy_X_pay.2.1 7 = .ok (.invokevirtual 129, 3) := by decide +kernel
theorem d_X_pay_10 : decode zy_X_pay.2.1 10 = .ok (.ifCond .ne (6), 3) := by decide +kernel
theorem d_X_pay_13 : decode zy_X_pay.2.1 13 = .ok (.bipush (-2), 2) := by decide +kernel
theorem d_X_pay_15 : decode zy_X_pay.2.1 15 = .ok (.ireturn, 1) := by decide +kernel
theorem d_X_pay_16 : decode zy_X_pay.2.1 16 = .ok (.iload_n 1, 1) := by decide +kernel
theorem d_X_pay_17 : decode zy_X_pay.2.1 17 = .ok (.iconst (-1), 1) := by decide +kernel
theorem d_X_pay_18 : decode zy_X_pay.2.1 18 = .ok (.if_icmp .eq (14), 3) := by decide +kernel
theorem d_X_pay_21 : decode zy_X_pay.2.1 21 = .ok (.aload_n 0, 1) := by decide +kernel
theorem d_X_pay_22 : decode zy_X_pay.2.1 22 = .ok (.aload_n 0, 1) := by decide +kernel
theorem d_X_pay_23 : decode zy_X_pay.2.1 23 = .ok (.getfield 18, 3) := by decide +kernel
theorem d_X_pay_26 : decode zy_X_pay.2.1 26 = .ok (.iload_n 1, 1) := by decide +kernel
theorem d_X_pay_27 : decode zy_X_pay.2.1 27 = .ok (.aaload, 1) := by decide +kernel
theorem d_X_pay_28 : decode zy_X_pay.2.1 28 = .ok (.invokevirtual 267, 3) := by decide +kernel
theorem d_X_pay_31 : decode zy_X_pay.2.1 31 = .ok (.ireturn, 1) := by decide +kernel
theorem d_X_pay_32 : decode zy_X_pay.2.1 32 = .ok (.iconst 0, 1) := by decide +kernel
theorem d_X_pay_33 : decode zy_X_pay.2.1 33 = .ok (.istore_n 2, 1) := by decide +kernel
theorem d_X_pay_34 : decode zy_X_pay.2.1 34 = .ok (.iconst 0, 1) := by decide +kernel
theorem d_X_pay_35 : decode zy_X_pay.2.1 35 = .ok (.istore_n 3, 1) := by decide +kernel
theorem d_X_pay_36 : decode zy_X_pay.2.1 36 = .ok (.iload_n 3, 1) := by decide +kernel
theorem d_X_pay_37 : decode zy_X_pay.2.1 37 = .ok (.aload_n 0, 1) := by decide +kernel
theorem d_X_pay_38 : decode zy_X_pay.2.1 38 = .ok (.getfield 22, 3) := by decide +kernel
theorem d_X_pay_41 : decode zy_X_pay.2.1 41 = .ok (.if_icmp .ge (22), 3) := by decide +kernel
theorem d_X_pay_44 : decode zy_X_pay.2.1 44 = .ok (.iload_n 2, 1) := by decide +kernel
theorem d_X_pay_45 : decode zy_X_pay.2.1 45 = .ok (.aload_n 0, 1) := by decide +kernel
theorem d_X_pay_46 : decode zy_X_pay.2.1 46 = .ok (.aload_n 0, 1) := by decide +kernel
theorem d_X_pay_47 : decode zy_X_pay.2.1 47 = .ok (.getfield 18, 3) := by decide +kernel
theorem d_X_pay_50 : decode zy_X_pay.2.1 50 = .ok (.iload_n 3, 1) := by decide +kernel
theorem d_X_pay_51 : decode zy_X_pay.2.1 51 = .ok (.aaload, 1) := by decide +kernel
theorem d_X_pay_52 : decode zy_X_pay.2.1 52 = .ok (.invokevirtual 267, 3) := by decide +kernel
theorem d_X_pay_55 : decode zy_X_pay.2.1 55 = .ok (.iadd, 1) := by decide +kernel
theorem d_X_pay_56 : decode zy_X_pay.2.1 56 = .ok (.istore_n 2, 1) := by decide +kernel
theorem d_X_pay_57 : decode zy_X_pay.2.1 57 = .ok (.iinc 3 1, 3) := by decide +kernel
theorem d_X_pay_60 : decode zy_X_pay.2.1 60 = .ok (.goto (-24), 3) := by decide +kernel
theorem d_X_pay_63 : decode zy_X_pay.2.1 63 = .ok (.iload_n 2, 1) := by decide +kernel
theorem d_X_pay_64 : decode zy_X_pay.2.1 64 = .ok (.ireturn, 1) := by decide +kernel
theorem d_X_worst_0 : decode zy_X_worst.2.1 0 = .ok (.iload_n 1, 1) := by decide +kernel
theorem d_X_worst_1 : decode zy_X_worst.2.1 1 = .ok (.ifCond .lt (16), 3) := by decide +kernel
theorem d_X_worst_4 : decode zy_X_worst.2.1 4 = .ok (.iload_n 1, 1) := by decide +kernel
theorem d_X_worst_5 : decode zy_X_worst.2.1 5 = .ok (.bipush 7, 2) := by decide +kernel
theorem d_X_worst_7 : decode zy_X_worst.2.1 7 = .ok (.if_icmp .gt (10), 3) := by decide +kernel
theorem d_X_worst_10 : decode zy_X_worst.2.1 10 = .ok (.iload_n 2, 1) := by decide +kernel
theorem d_X_worst_11 : decode zy_X_worst.2.1 11 = .ok (.invokestatic 114, 3) := by decide +kernel
theorem d_X_worst_14 : decode zy_X_worst.2.1 14 = .ok (.ifCond .ne (6), 3) := by decide +kernel
theorem d_X_worst_17 : decode zy_X_worst.2.1 17 = .ok (.bipush (-2), 2) := by decide +kernel
theorem d_X_worst_19 : decode zy_X_worst.2.1 19 = .ok (.ireturn, 1) := by decide +kernel
theorem d_X_worst_20 : decode zy_X_worst.2.1 20 = .ok (.iload_n 2, 1) := by decide +kernel
theorem d_X_worst_21 : decode zy_X_worst.2.1 21 = .ok (.ifCond .ne (11), 3) := by decide +kernel
theorem d_X_worst_24 : decode zy_X_worst.2.1 24 = .ok (.aload_n 0, 1) := by decide +kernel
theorem d_X_worst_25 : decode zy_X_worst.2.1 25 = .ok (.iload_n 1, 1) := by decide +kernel
theorem d_X_worst_26 : decode zy_X_worst.2.1 26 = .ok (.invokevirtual 207, 3) := by decide +kernel
theorem d_X_worst_29 : decode zy_X_worst.2.1 29 = .ok (.goto (8), 3) := by decide +kernel
theorem d_X_worst_32 : decode zy_X_worst.2.1 32 = .ok (.aload_n 0, 1) := by decide +kernel
theorem d_X_worst_33 : decode zy_X_worst.2.1 33 = .ok (.iload_n 1, 1) := by decide +kernel
theorem d_X_worst_34 : decode zy_X_worst.2.1 34 = .ok (.invokevirtual 210, 3) := by decide +kernel
theorem d_X_worst_37 : decode zy_X_worst.2.1 37 = .ok (.ireturn, 1) := by decide +kernel
theorem d_Reader_wordBetween_0 : decode zy_Reader_wordBetween.2.1 0 = .ok (.iconst 0, 1) := by decide +kernel
theorem d_Reader_wordBetween_1 : decode zy_Reader_wordBetween.2.1 1 = .ok (.istore_n 3, 1) := by decide +kernel
theorem d_Reader_wordBetween_2 : decode zy_Reader_wordBetween.2.1 2 = .ok (.iload_n 1, 1) := by decide +kernel
theorem d_Reader_wordBetween_3 : decode zy_Reader_wordBetween.2.1 3 = .ok (.istore 4, 2) := by decide +kernel
theorem d_Reader_wordBetween_5 : decode zy_Reader_wordBetween.2.1 5 = .ok (.iconst 1, 1) := by decide +kernel
theorem d_Reader_wordBetween_6 : decode zy_Reader_wordBetween.2.1 6 = .ok (.istore 5, 2) := by decide +kernel
theorem d_Reader_wordBetween_8 : decode zy_Reader_wordBetween.2.1 8 = .ok (.iconst 0, 1) := by decide +kernel
theorem d_Reader_wordBetween_9 : decode zy_Reader_wordBetween.2.1 9 = .ok (.istore 6, 2) := by decide +kernel
theorem d_Reader_wordBetween_11 : decode zy_Reader_wordBetween.2.1 11 = .ok (.iload 6, 2) := by decide +kernel
theorem d_Reader_wordBetween_13 : decode zy_Reader_wordBetween.2.1 13 = .ok (.ldc 100, 2) := by decide +kernel
theorem d_Reader_wordBetween_15 : decode zy_Reader_wordBetween.2.1 15 = .ok (.invokevirtual 102, 3) := by decide +kernel
theorem d_Reader_wordBetween_18 : decode zy_Reader_wordBetween.2.1 18 = .ok (.if_icmp .ge (92), 3) := by decide +kernel
theorem d_Reader_wordBetween_21 : decode zy_Reader_wordBetween.2.1 21 = .ok (.ldc 100, 2) := by decide +kernel
theorem d_Reader_wordBetween_23 : decode zy_Reader_wordBetween.2.1 23 = .ok (.iload 6, 2) := by decide +kernel
theorem d_Reader_wordBetween_25 : decode zy_Reader_wordBetween.2.1 25 = .ok (.invokevirtual 108, 3) := by decide +kernel
theorem d_Reader_wordBetween_28 : decode zy_Reader_wordBetween.2.1 28 = .ok (.istore 7, 2) := by decide +kernel
theorem d_Reader_wordBetween_30 : decode zy_Reader_wordBetween.2.1 30 = .ok (.iload 7, 2) := by decide +kernel
theorem d_Reader_wordBetween_32 : decode zy_Reader_wordBetween.2.1 32 = .ok (.bipush 32, 2) := by decide +kernel
