theorem d_Reader_wordBetween_34 : decode zy_Reader_wordBetween.2.1 34 = .ok (.if_icmp .eq (48), 3) := by decide +kernel
theorem d_Reader_wordBetween_37 : decode zy_Reader_wordBetween.2.1 37 = .ok (.iload 5, 2) := by decide +kernel
theorem d_Reader_wordBetween_39 : decode zy_Reader_wordBetween.2.1 39 = .ok (.ifCond .eq (34), 3) := by decide +kernel
theorem d_Reader_wordBetween_42 : decode zy_Reader_wordBetween.2.1 42 = .ok (.iload 4, 2) := by decide +kernel
theorem d_Reader_wordBetween_44 : decode zy_Reader_wordBetween.2.1 44 = .ok (.iload_n 2, 1) := by decide +kernel
theorem d_Reader_wordBetween_45 : decode zy_Reader_wordBetween.2.1 45 = .ok (.if_icmp .ge (28), 3) := by decide +kernel
theorem d_Reader_wordBetween_48 : decode zy_Reader_wordBetween.2.1 48 = .ok (.iload 4, 2) := by decide +kernel
theorem d_Reader_wordBetween_50 : decode zy_Reader_wordBetween.2.1 50 = .ok (.aload_n 0, 1) := by decide +kernel
theorem d_Reader_wordBetween_51 : decode zy_Reader_wordBetween.2.1 51 = .ok (.getfield 9, 3) := by decide +kernel
theorem d_Reader_wordBetween_54 : decode zy_Reader_wordBetween.2.1 54 = .ok (.if_icmp .ge (19), 3) := by decide +kernel
theorem d_Reader_wordBetween_57 : decode zy_Reader_wordBetween.2.1 57 = .ok (.aload_n 0, 1) := by decide +kernel
theorem d_Reader_wordBetween_58 : decode zy_Reader_wordBetween.2.1 58 = .ok (.getfield 15, 3) := by decide +kernel
theorem d_Reader_wordBetween_61 : decode zy_Reader_wordBetween.2.1 61 = .ok (.iload 4, 2) := by decide +kernel
theorem d_Reader_wordBetween_63 : decode zy_Reader_wordBetween.2.1 63 = .ok (.iaload, 1) := by decide +kernel
theorem d_Reader_wordBetween_64 : decode zy_Reader_wordBetween.2.1 64 = .ok (.iload 7, 2) := by decide +kernel
theorem d_Reader_wordBetween_66 : decode zy_Reader_wordBetween.2.1 66 = .ok (.if_icmp .ne (7), 3) := by decide +kernel
theorem d_Reader_wordBetween_69 : decode zy_Reader_wordBetween.2.1 69 = .ok (.iconst 1, 1) := by decide +kernel
theorem d_Reader_wordBetween_70 : decode zy_Reader_wordBetween.2.1 70 = .ok (.goto (4), 3) := by decide +kernel
theorem d_Reader_wordBetween_73 : decode zy_Reader_wordBetween.2.1 73 = .ok (.iconst 0, 1) := by decide +kernel
theorem d_Reader_wordBetween_74 : decode zy_Reader_wordBetween.2.1 74 = .ok (.istore 5, 2) := by decide +kernel
theorem d_Reader_wordBetween_76 : decode zy_Reader_wordBetween.2.1 76 = .ok (.iinc 4 1, 3) := by decide +kernel
theorem d_Reader_wordBetween_79 : decode zy_Reader_wordBetween.2.1 79 = .ok (.goto (25), 3) := by decide +kernel
theorem d_Reader_wordBetween_82 : decode zy_Reader_wordBetween.2.1 82 = .ok (.iload 5, 2) := by decide +kernel
theorem d_Reader_wordBetween_84 : decode zy_Reader_wordBetween.2.1 84 = .ok (.ifCond .eq (11), 3) := by decide +kernel
theorem d_Reader_wordBetween_87 : decode zy_Reader_wordBetween.2.1 87 = .ok (.iload 4, 2) := by decide +kernel
theorem d_Reader_wordBetween_89 : decode zy_Reader_wordBetween.2.1 89 = .ok (.iload_n 2, 1) := by decide +kernel
theorem d_Reader_wordBetween_90 : decode zy_Reader_wordBetween.2.1 90 = .ok (.if_icmp .ne (5), 3) := by decide +kernel
theorem d_Reader_wordBetween_93 : decode zy_Reader_wordBetween.2.1 93 = .ok (.iload_n 3, 1) := by decide +kernel
theorem d_Reader_wordBetween_94 : decode zy_Reader_wordBetween.2.1 94 = .ok (.ireturn, 1) := by decide +kernel
theorem d_Reader_wordBetween_95 : decode zy_Reader_wordBetween.2.1 95 = .ok (.iinc 3 1, 3) := by decide +kernel
theorem d_Reader_wordBetween_98 : decode zy_Reader_wordBetween.2.1 98 = .ok (.iload_n 1, 1) := by decide +kernel
theorem d_Reader_wordBetween_99 : decode zy_Reader_wordBetween.2.1 99 = .ok (.istore 4, 2) := by decide +kernel
theorem d_Reader_wordBetween_101 : decode zy_Reader_wordBetween.2.1 101 = .ok (.iconst 1, 1) := by decide +kernel
theorem d_Reader_wordBetween_102 : decode zy_Reader_wordBetween.2.1 102 = .ok (.istore 5, 2) := by decide +kernel
theorem d_Reader_wordBetween_104 : decode zy_Reader_wordBetween.2.1 104 = .ok (.iinc 6 1, 3) := by decide +kernel
theorem d_Reader_wordBetween_107 : decode zy_Reader_wordBetween.2.1 107 = .ok (.goto (-96), 3) := by decide +kernel
theorem d_Reader_wordBetween_110 : decode zy_Reader_wordBetween.2.1 110 = .ok (.bipush 14, 2) := by decide +kernel
theorem d_Reader_wordBetween_112 : decode zy_Reader_wordBetween.2.1 112 = .ok (.ireturn, 1) := by decide +kernel
theorem d_Reader_takeWord_0 : decode zy_Reader_takeWord.2.1 0 = .ok (.aload_n 0, 1) := by decide +kernel
theorem d_Reader_takeWord_1 : decode zy_Reader_takeWord.2.1 1 = .ok (.getfield 19, 3) := by decide +kernel
theorem d_Reader_takeWord_4 : decode zy_Reader_takeWord.2.1 4 = .ok (.aload_n 0, 1) := by decide +kernel
theorem d_Reader_takeWord_5 : decode zy_Reader_takeWord.2.1 5 = .ok (.getfield 9, 3) := by decide +kernel
theorem d_Reader_takeWord_8 : decode zy_Reader_takeWord.2.1 8 = .ok (.if_icmp .ge (31), 3) := by decide +kernel
theorem d_Reader_takeWord_11 : decode zy_Reader_takeWord.2.1 11 = .ok (.aload_n 0, 1) := by decide +kernel
theorem d_Reader_takeWord_12 : decode zy_Reader_takeWord.2.1 12 = .ok (.getfield 15, 3) := by decide +kernel
theorem d_Reader_takeWord_15 : decode zy_Reader_takeWord.2.1 15 = .ok (.aload_n 0, 1) := by decide +kernel
theorem d_Reader_takeWord_16 : decode zy_Reader_takeWord.2.1 16 = .ok (.getfield 19, 3) := by decide +kernel
theorem d_Reader_takeWord_19 : decode zy_Reader_takeWord.2.1 19 = .ok (.iaload, 1) := by decide +kernel
theorem d_Reader_takeWord_20 : decode zy_Reader_takeWord.2.1 20 = .ok (.invokestatic 81, 3) := by decide +kernel
theorem d_Reader_takeWord_23 : decode zy_Reader_takeWord.2.1 23 = .ok (.ifCond .eq (16), 3) := by decide +kernel
theorem d_Reader_takeWord_26 : decode zy_Reader_takeWord.2.1 26 = .ok (.aload_n 0, 1) := by decide +kernel
theorem d_Reader_takeWord_27 : decode zy_Reader_takeWord.2.1 27 = .ok (.dup, 1) := by decide +kernel
theorem d_Reader_takeWord_28 : decode zy_Reader_takeWord.2.1 28 = .ok (.getfield 19, 3) := by decide +kernel
theorem d_Reader_takeWord_31 : decode zy_Reader_takeWord.2.1 31 = .ok (.iconst 1, 1) := by decide +kernel
theorem d_Reader_takeWord_32 : decode zy_Reader_takeWord.2.1 32 = .ok (.iadd, 1) := by decide +kernel
theorem d_Reader_takeWord_33 : decode zy_Reader_takeWord.2.1 33 = .ok (.putfield 19, 3) := by decide +kernel
theorem d_Reader_takeWord_36 : decode zy_Reader_takeWord.2.1 36 = .ok (.goto (-36), 3) := by decide +kernel
theorem d_Reader_takeWord_39 : decode zy_Reader_takeWord.2.1 39 = .ok (.aload_n 0, 1) := by decide +kernel
theorem d_Reader_takeWord_40 : decode zy_Reader_takeWord.2.1 40 = .ok (.aload_n 0, 1) := by decide +kernel
theorem d_Reader_takeWord_41 : decode zy_Reader_takeWord.2.1 41 = .ok (.aload_n 0, 1) := by decide +kernel
theorem d_Reader_takeWord_42 : decode zy_Reader_takeWord.2.1 42 = .ok (.getfield 25, 3) := by decide +kernel
theorem d_Reader_takeWord_45 : decode zy_Reader_takeWord.2.1 45 = .ok (.aload_n 0, 1) := by decide +kernel
theorem d_Reader_takeWord_46 : decode zy_Reader_takeWord.2.1 46 = .ok (.getfield 19, 3) := by decide +kernel
theorem d_Reader_takeWord_49 : decode zy_Reader_takeWord.2.1 49 = .ok (.invokevirtual 96, 3) := by decide +kernel
theorem d_Reader_takeWord_52 : decode zy_Reader_takeWord.2.1 52 = .ok (.putfield 22, 3) := by decide +kernel
theorem d_Reader_takeWord_55 : decode zy_Reader_takeWord.2.1 55 = .ok (.return_, 1) := by decide +kernel
theorem d_Reader_advance_0 : decode zy_Reader_advance.2.1 0 = .ok (.aload_n 0, 1) := by decide +kernel
theorem d_Reader_advance_1 : decode zy_Reader_advance.2.1 1 = .ok (.getfield 19, 3) := by decide +kernel
theorem d_Reader_advance_4 : decode zy_Reader_advance.2.1 4 = .ok (.aload_n 0, 1) := by decide +kernel
theorem d_Reader_advance_5 : decode zy_Reader_advance.2.1 5 = .ok (.getfield 9, 3) := by decide +kernel
theorem d_Reader_advance_8 : decode zy_Reader_advance.2.1 8 = .ok (.if_icmp .ge (44), 3) := by decide +kernel
theorem d_Reader_advance_11 : decode zy_Reader_advance.2.1 11 = .ok (.aload_n 0, 1) := by decide +kernel
theorem d_Reader_advance_12 : decode zy_Reader_advance.2.1 12 = .ok (.getfield 15, 3) := by decide +kernel
theorem d_Reader_advance_15 : decode zy_Reader_advance.2.1 15 = .ok (.aload_n 0, 1) := by decide +kernel
theorem d_Reader_advance_16 : decode zy_Reader_advance.2.1 16 = .ok (.getfield 19, 3) := by decide +kernel
theorem d_Reader_advance_19 : decode zy_Reader_advance.2.1 19 = .ok (.iaload, 1) := by decide +kernel
theorem d_Reader_advance_20 : decode zy_Reader_advance.2.1 20 = .ok (.bipush 32, 2) := by decide +kernel
theorem d_Reader_advance_22 : decode zy_Reader_advance.2.1 22 = .ok (.if_icmp .eq (17), 3) := by decide +kernel
theorem d_Reader_advance_25 : decode zy_Reader_advance.2.1 25 = .ok (.aload_n 0, 1) := by decide +kernel
theorem d_Reader_advance_26 : decode zy_Reader_advance.2.1 26 = .ok (.getfield 15, 3) := by decide +kernel
theorem d_Reader_advance_29 : decode zy_Reader_advance.2.1 29 = .ok (.aload_n 0, 1) := by decide +kernel
theorem d_Reader_advance_30 : decode zy_Reader_advance.2.1 30 = .ok (.getfield 19, 3) := by decide +kernel
theorem d_Reader_advance_33 : decode zy_Reader_advance.2.1 33 = .ok (.iaload, 1) := by decide +kernel
theorem d_Reader_advance_34 : decode zy_Reader_advance.2.1 34 = .ok (.bipush 10, 2) := by decide +kernel
theorem d_Reader_advance_36 : decode zy_Reader_advance.2.1 36 = .ok (.if_icmp .ne (16), 3) := by decide +kernel
theorem d_Reader_advance_39 : decode zy_Reader_advance.2.1 39 = .ok (.aload_n 0, 1) := by decide +kernel
theorem d_Reader_advance_40 : decode zy_Reader_advance.2.1 40 = .ok (.dup, 1) := by decide +kernel
theorem d_Reader_advance_41 : decode zy_Reader_advance.2.1 41 = .ok (.getfield 19, 3) := by decide +kernel
theorem d_Reader_advance_44 : decode zy_Reader_advance.2.1 44 = .ok (.iconst 1, 1) := by decide +kernel
theorem d_Reader_advance_45 : decode zy_Reader_advance.2.1 45 = .ok (.iadd, 1) := by decide +kernel
theorem d_Reader_advance_46 : decode zy_Reader_advance.2.1 46 = .ok (.putfield 19, 3) := by decide +kernel
theorem d_Reader_advance_49 : decode zy_Reader_advance.2.1 49 = .ok (.goto (-49), 3) := by decide +kernel
theorem d_Reader_advance_52 : decode zy_Reader_advance.2.1 52 = .ok (.aload_n 0, 1) := by decide +kernel
theorem d_Reader_advance_53 : decode zy_Reader_advance.2.1 53 = .ok (.aload_n 0, 1) := by decide +kernel
theorem d_Reader_advance_54 : decode zy_Reader_advance.2.1 54 = .ok (.getfield 19, 3) := by decide +kernel
theorem d_Reader_advance_57 : decode zy_Reader_advance.2.1 57 = .ok (.putfield 25, 3) := by decide +kernel
theorem d_Reader_advance_60 : decode zy_Reader_advance.2.1 60 = .ok (.aload_n 0, 1) := by decide +kernel
theorem d_Reader_advance_61 : decode zy_Reader_advance.2.1 61 = .ok (.getfield 19, 3) := by decide +kernel
theorem d_Reader_advance_64 : decode zy_Reader_advance.2.1 64 = .ok (.aload_n 0, 1) := by decide +kernel
theorem d_Reader_advance_65 : decode zy_Reader_advance.2.1 65 = .ok (.getfield 9, 3) := by decide +kernel
theorem d_Reader_advance_68 : decode zy_Reader_advance.2.1 68 = .ok (.if_icmp .lt (12), 3) := by decide +kernel
theorem d_Reader_advance_71 : decode zy_Reader_advance.2.1 71 = .ok (.aload_n 0, 1) := by decide +kernel
theorem d_Reader_advance_72 : decode zy_Reader_advance.2.1 72 = .ok (.bipush 13, 2) := by decide +kernel
theorem d_Reader_advance_74 : decode zy_Reader_advance.2.1 74 = .ok (.putfield 22, 3) := by decide +kernel
theorem d_Reader_advance_77 : decode zy_Reader_advance.2.1 77 = .ok (.goto (90), 3) := by decide +kernel
theorem d_Reader_advance_80 : decode zy_Reader_advance.2.1 80 = .ok (.aload_n 0, 1) := by decide +kernel
theorem d_Reader_advance_81 : decode zy_Reader_advance.2.1 81 = .ok (.getfield 15, 3) := by decide +kernel
theorem d_Reader_advance_84 : decode zy_Reader_advance.2.1 84 = .ok (.aload_n 0, 1) := by decide +kernel
theorem d_Reader_advance_85 : decode zy_Reader_advance.2.1 85 = .ok (.getfield 19, 3) := by decide +kernel
theorem d_Reader_advance_88 : decode zy_Reader_advance.2.1 88 = .ok (.iaload, 1) := by decide +kernel
theorem d_Reader_advance_89 : decode zy_Reader_advance.2.1 89 = .ok (.invokestatic 81, 3) := by decide +kernel
theorem d_Reader_advance_92 : decode zy_Reader_advance.2.1 92 = .ok (.ifCond .eq (10), 3) := by decide +kernel
theorem d_Reader_advance_95 : decode zy_Reader_advance.2.1 95 = .ok (.aload_n 0, 1) := by decide +kernel
theorem d_Reader_advance_96 : decode zy_Reader_advance.2.1 96 = .ok (.invokevirtual 84, 3) := by decide +kernel
theorem d_Reader_advance_99 : decode zy_Reader_advance.2.1 99 = .ok (.goto (68), 3) := by decide +kernel
theorem d_Reader_advance_102 : decode zy_Reader_advance.2.1 102 = .ok (.aload_n 0, 1) := by decide +kernel
theorem d_Reader_advance_103 : decode zy_Reader_advance.2.1 103 = .ok (.getfield 15, 3) := by decide +kernel
theorem d_Reader_advance_106 : decode zy_Reader_advance.2.1 106 = .ok (.aload_n 0, 1) := by decide +kernel
theorem d_Reader_advance_107 : decode zy_Reader_advance.2.1 107 = .ok (.getfield 19, 3) := by decide +kernel
theorem d_Reader_advance_110 : decode zy_Reader_advance.2.1 110 = .ok (.iaload, 1) := by decide +kernel
theorem d_Reader_advance_111 : decode zy_Reader_advance.2.1 111 = .ok (.invokestatic 87, 3) := by decide +kernel
theorem d_Reader_advance_114 : decode zy_Reader_advance.2.1 114 = .ok (.ifCond .eq (10), 3) := by decide +kernel
theorem d_Reader_advance_117 : decode zy_Reader_advance.2.1 117 = .ok (.aload_n 0, 1) := by decide +kernel
theorem d_Reader_advance_118 : decode zy_Reader_advance.2.1 118 = .ok (.invokevirtual 90, 3) := by decide +kernel
theorem d_Reader_advance_121 : decode zy_Reader_advance.2.1 121 = .ok (.goto (46), 3) := by decide +kernel
theorem d_Reader_advance_124 : decode zy_Reader_advance.2.1 124 = .ok (.aload_n 0, 1) := by decide +kernel
theorem d_Reader_advance_125 : decode zy_Reader_advance.2.1 125 = .ok (.aload_n 0, 1) := by decide +kernel
theorem d_Reader_advance_126 : decode zy_Reader_advance.2.1 126 = .ok (.getfield 15, 3) := by decide +kernel
theorem d_Reader_advance_129 : decode zy_Reader_advance.2.1 129 = .ok (.aload_n 0, 1) := by decide +kernel
theorem d_Reader_advance_130 : decode zy_Reader_advance.2.1 130 = .ok (.getfield 19, 3) := by decide +kernel
theorem d_Reader_advance_133 : decode zy_Reader_advance.2.1 133 = .ok (.iaload, 1) := by decide +kernel
theorem d_Reader_advance_134 : decode zy_Reader_advance.2.1 134 = .ok (.invokestatic 93, 3) := by decide +kernel
theorem d_Reader_advance_137 : decode zy_Reader_advance.2.1 137 = .ok (.ifCond .eq (15), 3) := by decide +kernel
theorem d_Reader_advance_140 : decode zy_Reader_advance.2.1 140 = .ok (.aload_n 0, 1) := by decide +kernel
theorem d_Reader_advance_141 : decode zy_Reader_advance.2.1 141 = .ok (.getfield 15, 3) := by decide +kernel
theorem d_Reader_advance_144 : decode zy_Reader_advance.2.1 144 = .ok (.aload_n 0, 1) := by decide +kernel
theorem d_Reader_advance_145 : decode zy_Reader_advance.2.1 145 = .ok (.getfield 19, 3) := by decide +kernel
theorem d_Reader_advance_148 : decode zy_Reader_advance.2.1 148 = .ok (.iaload, 1) := by decide +kernel
theorem d_Reader_advance_149 : decode zy_Reader_advance.2.1 149 = .ok (.goto (5), 3) := by decide +kernel
theorem d_Reader_advance_152 : decode zy_Reader_advance.2.1 152 = .ok (.bipush 14, 2) := by decide +kernel
theorem d_Reader_advance_154 : decode zy_Reader_advance.2.1 154 = .ok (.putfield 22, 3) := by decide +kernel
theorem d_Reader_advance_157 : decode zy_Reader_advance.2.1 157 = .ok (.aload_n 0, 1) := by decide +kernel
theorem d_Reader_advance_158 : decode zy_Reader_advance.2.1 158 = .ok (.dup, 1) := by decide +kernel
theorem d_Reader_advance_159 : decode zy_Reader_advance.2.1 159 = .ok (.getfield 19, 3) := by decide +kernel
theorem d_Reader_advance_162 : decode zy_Reader_advance.2.1 162 = .ok (.iconst 1, 1) := by decide +kernel
theorem d_Reader_advance_163 : decode zy_Reader_advance.2.1 163 = .ok (.iadd, 1) := by decide +kernel
theorem d_Reader_advance_164 : decode zy_Reader_advance.2.1 164 = .ok (.putfield 19, 3) := by decide +kernel
theorem d_Reader_advance_167 : decode zy_Reader_advance.2.1 167 = .ok (.return_, 1) := by decide +kernel
theorem d_Reader_expect_0 : decode zy_Reader_expect.2.1 0 = .ok (.aload_n 0, 1) := by decide +kernel
theorem d_Reader_expect_1 : decode zy_Reader_expect.2.1 1 = .ok (.getfield 22, 3) := by decide +kernel
theorem d_Reader_expect_4 : decode zy_Reader_expect.2.1 4 = .ok (.iload_n 1, 1) := by decide +kernel
theorem d_Reader_expect_5 : decode zy_Reader_expect.2.1 5 = .ok (.if_icmp .ne (10), 3) := by decide +kernel
theorem d_Reader_expect_8 : decode zy_Reader_expect.2.1 8 = .ok (.aload_n 0, 1) := by decide +kernel
theorem d_Reader_expect_9 : decode zy_Reader_expect.2.1 9 = .ok (.invokevirtual 43, 3) := by decide +kernel
theorem d_Reader_expect_12 : decode zy_Reader_expect.2.1 12 = .ok (.goto (7), 3) := by decide +kernel
theorem d_Reader_expect_15 : decode zy_Reader_expect.2.1 15 = .ok (.aload_n 0, 1) := by decide +kernel
theorem d_Reader_expect_16 : decode zy_Reader_expect.2.1 16 = .ok (.invokevirtual 56, 3) := by decide +kernel
theorem d_Reader_expect_19 : decode zy_Reader_expect.2.1 19 = .ok (.return_, 1) := by decide +kernel
theorem d_Reader_opens_0 : decode zy_Reader_opens.2.1 0 = .ok (.iload_n 1, 1) := by decide +kernel
theorem d_Reader_opens_1 : decode zy_Reader_opens.2.1 1 = .ok (.iconst 5, 1) := by decide +kernel
theorem d_Reader_opens_2 : decode zy_Reader_opens.2.1 2 = .ok (.if_icmp .lt (9), 3) := by decide +kernel
theorem d_Reader_opens_5 : decode zy_Reader_opens.2.1 5 = .ok (.aload_n 0, 1) := by decide +kernel
theorem d_Reader_opens_6 : decode zy_Reader_opens.2.1 6 = .ok (.invokevirtual 56, 3) := by decide +kernel
theorem d_Reader_opens_9 : decode zy_Reader_opens.2.1 9 = .ok (.iconst 0, 1) := by decide +kernel
theorem d_Reader_opens_10 : decode zy_Reader_opens.2.1 10 = .ok (.ireturn, 1) := by decide +kernel
theorem d_Reader_opens_11 : decode zy_Reader_opens.2.1 11 = .ok (.aload_n 0, 1) := by decide +kernel
theorem d_Reader_opens_12 : decode zy_Reader_opens.2.1 12 = .ok (.invokevirtual 43, 3) := by decide +kernel
theorem d_Reader_opens_15 : decode zy_Reader_opens.2.1 15 = .ok (.iconst 1, 1) := by decide +kernel
theorem d_Reader_opens_16 : decode zy_Reader_opens.2.1 16 = .ok (.ireturn, 1) := by decide +kernel
theorem d_Reader_readAnd_0 : decode zy_Reader_readAnd.2.1 0 = .ok (.aload_n 0, 1) := by decide +kernel
theorem d_Reader_readAnd_1 : decode zy_Reader_readAnd.2.1 1 = .ok (.iload_n 1, 1) := by decide +kernel
theorem d_Reader_readAnd_2 : decode zy_Reader_readAnd.2.1 2 = .ok (.invokevirtual 65, 3) := by decide +kernel
theorem d_Reader_readAnd_5 : decode zy_Reader_readAnd.2.1 5 = .ok (.iconst 0, 1) := by decide +kernel
theorem d_Reader_readAnd_6 : decode zy_Reader_readAnd.2.1 6 = .ok (.istore_n 2, 1) := by decide +kernel
theorem d_Reader_readAnd_7 : decode zy_Reader_readAnd.2.1 7 = .ok (.iload_n 2, 1) := by decide +kernel
theorem d_Reader_readAnd_8 : decode zy_Reader_readAnd.2.1 8 = .ok (.sipush 160, 3) := by decide +kernel
theorem d_Reader_readAnd_11 : decode zy_Reader_readAnd.2.1 11 = .ok (.if_icmp .ge (37), 3) := by decide +kernel
theorem d_Reader_readAnd_14 : decode zy_Reader_readAnd.2.1 14 = .ok (.aload_n 0, 1) := by decide +kernel
theorem d_Reader_readAnd_15 : decode zy_Reader_readAnd.2.1 15 = .ok (.getfield 22, 3) := by decide +kernel
theorem d_Reader_readAnd_18 : decode zy_Reader_readAnd.2.1 18 = .ok (.bipush 10, 2) := by decide +kernel
theorem d_Reader_readAnd_20 : decode zy_Reader_readAnd.2.1 20 = .ok (.if_icmp .ne (28), 3) := by decide +kernel
theorem d_Reader_readAnd_23 : decode zy_Reader_readAnd.2.1 23 = .ok (.aload_n 0, 1) := by decide +kernel
theorem d_Reader_readAnd_24 : decode zy_Reader_readAnd.2.1 24 = .ok (.invokevirtual 43, 3) := by decide +kernel
theorem d_Reader_readAnd_27 : decode zy_Reader_readAnd.2.1 27 = .ok (.aload_n 0, 1) := by decide +kernel
theorem d_Reader_readAnd_28 : decode zy_Reader_readAnd.2.1 28 = .ok (.iload_n 1, 1) := by decide +kernel
theorem d_Reader_readAnd_29 : decode zy_Reader_readAnd.2.1 29 = .ok (.invokevirtual 65, 3) := by decide +kernel
theorem d_Reader_readAnd_32 : decode zy_Reader_readAnd.2.1 32 = .ok (.aload_n 0, 1) := by decide +kernel
theorem d_Reader_readAnd_33 : decode zy_Reader_readAnd.2.1 33 = .ok (.getfield 34, 3) := by decide +kernel
theorem d_Reader_readAnd_36 : decode zy_Reader_readAnd.2.1 36 = .ok (.sipush 20003, 3) := by decide +kernel
theorem d_Reader_readAnd_39 : decode zy_Reader_readAnd.2.1 39 = .ok (.invokevirtual 62, 3) := by decide +kernel
theorem d_Reader_readAnd_42 : decode zy_Reader_readAnd.2.1 42 = .ok (.iinc 2 1, 3) := by decide +kernel
theorem d_Reader_readAnd_45 : decode zy_Reader_readAnd.2.1 45 = .ok (.goto (-38), 3) := by decide +kernel
theorem d_Reader_readAnd_48 : decode zy_Reader_readAnd.2.1 48 = .ok (.return_, 1) := by decide +kernel
theorem d_Reader_readOr_0 : decode zy_Reader_readOr.2.1 0 = .ok (.aload_n 0, 1) := by decide +kernel
theorem d_Reader_readOr_1 : decode zy_Reader_readOr.2.1 1 = .ok (.iload_n 1, 1) := by decide +kernel
theorem d_Reader_readOr_2 : decode zy_Reader_readOr.2.1 2 = .ok (.invokevirtual 59, 3) := by decide +kernel
theorem d_Reader_readOr_5 : decode zy_Reader_readOr.2.1 5 = .ok (.iconst 0, 1) := by decide +kernel
theorem d_Reader_readOr_6 : decode zy_Reader_readOr.2.1 6 = .ok (.istore_n 2, 1) := by decide +kernel
theorem d_Reader_readOr_7 : decode zy_Reader_readOr.2.1 7 = .ok (.iload_n 2, 1) := by decide +kernel
theorem d_Reader_readOr_8 : decode zy_Reader_readOr.2.1 8 = .ok (.sipush 160, 3) := by decide +kernel
theorem d_Reader_readOr_11 : decode zy_Reader_readOr.2.1 11 = .ok (.if_icmp .ge (37), 3) := by decide +kernel
theorem d_Reader_readOr_14 : decode zy_Reader_readOr.2.1 14 = .ok (.aload_n 0, 1) := by decide +kernel
theorem d_Reader_readOr_15 : decode zy_Reader_readOr.2.1 15 = .ok (.getfield 22, 3) := by decide +kernel
theorem d_Reader_readOr_18 : decode zy_Reader_readOr.2.1 18 = .ok (.bipush 9, 2) := by decide +kernel
theorem d_Reader_readOr_20 : decode zy_Reader_readOr.2.1 20 = .ok (.if_icmp .ne (28), 3) := by decide +kernel
theorem d_Reader_readOr_23 : decode zy_Reader_readOr.2.1 23 = .ok (.aload_n 0, 1) := by decide +kernel
theorem d_Reader_readOr_24 : decode zy_Reader_readOr.2.1 24 = .ok (.invokevirtual 43, 3) := by decide +kernel
theorem d_Reader_readOr_27 : decode zy_Reader_readOr.2.1 27 = .ok (.aload_n 0, 1) := by decide +kernel
theorem d_Reader_readOr_28 : decode zy_Reader_readOr.2.1 28 = .ok (.iload_n 1, 1) := by decide +kernel
theorem d_Reader_readOr_29 : decode zy_Reader_readOr.2.1 29 = .ok (.invokevirtual 59, 3) := by decide +kernel
theorem d_Reader_readOr_32 : decode zy_Reader_readOr.2.1 32 = .ok (.aload_n 0, 1) := by decide +kernel
theorem d_Reader_readOr_33 : decode zy_Reader_readOr.2.1 33 = .ok (.getfield 34, 3) := by decide +kernel
theorem d_Reader_readOr_36 : decode zy_Reader_readOr.2.1 36 = .ok (.sipush 20002, 3) := by decide +kernel
theorem d_Reader_readOr_39 : decode zy_Reader_readOr.2.1 39 = .ok (.invokevirtual 62, 3) := by decide +kernel
theorem d_Reader_readOr_42 : decode zy_Reader_readOr.2.1 42 = .ok (.iinc 2 1, 3) := by decide +kernel
theorem d_Reader_readOr_45 : decode zy_Reader_readOr.2.1 45 = .ok (.goto (-38), 3) := by decide +kernel
theorem d_Reader_readOr_48 : decode zy_Reader_readOr.2.1 48 = .ok (.return_, 1) := by decide +kernel
theorem d_Reader_readSum_0 : decode zy_Reader_readSum.2.1 0 = .ok (.aload_n 0, 1) := by decide +kernel
theorem d_Reader_readSum_1 : decode zy_Reader_readSum.2.1 1 = .ok (.iload_n 1, 1) := by decide +kernel
theorem d_Reader_readSum_2 : decode zy_Reader_readSum.2.1 2 = .ok (.invokevirtual 75, 3) := by decide +kernel
theorem d_Reader_readSum_5 : decode zy_Reader_readSum.2.1 5 = .ok (.iconst 0, 1) := by decide +kernel
theorem d_Reader_readSum_6 : decode zy_Reader_readSum.2.1 6 = .ok (.istore_n 2, 1) := by decide +kernel
theorem d_Reader_readSum_7 : decode zy_Reader_readSum.2.1 7 = .ok (.iload_n 2, 1) := by decide +kernel
theorem d_Reader_readSum_8 : decode zy_Reader_readSum.2.1 8 = .ok (.sipush 160, 3) := by decide +kernel
theorem d_Reader_readSum_11 : decode zy_Reader_readSum.2.1 11 = .ok (.if_icmp .ge (63), 3) := by decide +kernel
theorem d_Reader_readSum_14 : decode zy_Reader_readSum.2.1 14 = .ok (.aload_n 0, 1) := by decide +kernel
theorem d_Reader_readSum_15 : decode zy_Reader_readSum.2.1 15 = .ok (.getfield 22, 3) := by decide +kernel
theorem d_Reader_readSum_18 : decode zy_Reader_readSum.2.1 18 = .ok (.bipush 43, 2) := by decide +kernel
theorem d_Reader_readSum_20 : decode zy_Reader_readSum.2.1 20 = .ok (.if_icmp .eq (12), 3) := by decide +kernel
theorem d_Reader_readSum_23 : decode zy_Reader_readSum.2.1 23 = .ok (.aload_n 0, 1) := by decide +kernel
theorem d_Reader_readSum_24 : decode zy_Reader_readSum.2.1 24 = .ok (.getfield 22, 3) := by decide +kernel
theorem d_Reader_readSum_27 : decode zy_Reader_readSum.2.1 27 = .ok (.bipush 45, 2) := by decide +kernel
theorem d_Reader_readSum_29 : decode zy_Reader_readSum.2.1 29 = .ok (.if_icmp .ne (45), 3) := by decide +kernel
theorem d_Reader_readSum_32 : decode zy_Reader_readSum.2.1 32 = .ok (.aload_n 0, 1) := by decide +kernel
theorem d_Reader_readSum_33 : decode zy_Reader_readSum.2.1 33 = .ok (.getfield 22, 3) := by decide +kernel
theorem d_Reader_readSum_36 : decode zy_Reader_readSum.2.1 36 = .ok (.bipush 43, 2) := by decide +kernel
theorem d_Reader_readSum_38 : decode zy_Reader_readSum.2.1 38 = .ok (.if_icmp .ne (9), 3) := by decide +kernel
theorem d_Reader_readSum_41 : decode zy_Reader_readSum.2.1 41 = .ok (.sipush 20006, 3) := by decide +kernel
theorem d_Reader_readSum_44 : decode zy_Reader_readSum.2.1 44 = .ok (.goto (6), 3) := by decide +kernel
theorem d_Reader_readSum_47 : decode zy_Reader_readSum.2.1 47 = .ok (.sipush 20007, 3) := by decide +kernel
theorem d_Reader_readSum_50 : decode zy_Reader_readSum.2.1 50 = .ok (.istore_n 3, 1) := by decide +kernel
theorem d_Reader_readSum_51 : decode zy_Reader_readSum.2.1 51 = .ok (.aload_n 0, 1) := by decide +kernel
theorem d_Reader_readSum_52 : decode zy_Reader_readSum.2.1 52 = .ok (.invokevirtual 43, 3) := by decide +kernel
theorem d_Reader_readSum_55 : decode zy_Reader_readSum.2.1 55 = .ok (.aload_n 0, 1) := by decide +kernel
theorem d_Reader_readSum_56 : decode zy_Reader_readSum.2.1 56 = .ok (.iload_n 1, 1) := by decide +kernel
theorem d_Reader_readSum_57 : decode zy_Reader_readSum.2.1 57 = .ok (.invokevirtual 75, 3) := by decide +kernel
theorem d_Reader_readSum_60 : decode zy_Reader_readSum.2.1 60 = .ok (.aload_n 0, 1) := by decide +kernel
theorem d_Reader_readSum_61 : decode zy_Reader_readSum.2.1 61 = .ok (.getfield 34, 3) := by decide +kernel
theorem d_Reader_readSum_64 : decode zy_Reader_readSum.2.1 64 = .ok (.iload_n 3, 1) := by decide +kernel
theorem d_Reader_readSum_65 : decode zy_Reader_readSum.2.1 65 = .ok (.invokevirtual 62, 3) := by decide +kernel
theorem d_Reader_readSum_68 : decode zy_Reader_readSum.2.1 68 = .ok (.iinc 2 1, 3) := by decide +kernel
theorem d_Reader_readSum_71 : decode zy_Reader_readSum.2.1 71 = .ok (.goto (-64), 3) := by decide +kernel
theorem d_Reader_readSum_74 : decode zy_Reader_readSum.2.1 74 = .ok (.return_, 1) := by decide +kernel
theorem d_Reader_readTerm_0 : decode zy_Reader_readTerm.2.1 0 = .ok (.aload_n 0, 1) := by decide +kernel
theorem d_Reader_readTerm_1 : decode zy_Reader_readTerm.2.1 1 = .ok (.iload_n 1, 1) := by decide +kernel
theorem d_Reader_readTerm_2 : decode zy_Reader_readTerm.2.1 2 = .ok (.invokevirtual 78, 3) := by decide +kernel
theorem d_Reader_readTerm_5 : decode zy_Reader_readTerm.2.1 5 = .ok (.iconst 0, 1) := by decide +kernel
theorem d_Reader_readTerm_6 : decode zy_Reader_readTerm.2.1 6 = .ok (.istore_n 2, 1) := by decide +kernel
theorem d_Reader_readTerm_7 : decode zy_Reader_readTerm.2.1 7 = .ok (.iload_n 2, 1) := by decide +kernel
theorem d_Reader_readTerm_8 : decode zy_Reader_readTerm.2.1 8 = .ok (.sipush 160, 3) := by decide +kernel
theorem d_Reader_readTerm_11 : decode zy_Reader_readTerm.2.1 11 = .ok (.if_icmp .ge (37), 3) := by decide +kernel
theorem d_Reader_readTerm_14 : decode zy_Reader_readTerm.2.1 14 = .ok (.aload_n 0, 1) := by decide +kernel
theorem d_Reader_readTerm_15 : decode zy_Reader_readTerm.2.1 15 = .ok (.getfield 22, 3) := by decide +kernel
theorem d_Reader_readTerm_18 : decode zy_Reader_readTerm.2.1 18 = .ok (.bipush 42, 2) := by decide +kernel
theorem d_Reader_readTerm_20 : decode zy_Reader_readTerm.2.1 20 = .ok (.if_icmp .ne (28), 3) := by decide +kernel
theorem d_Reader_readTerm_23 : decode zy_Reader_readTerm.2.1 23 = .ok (.aload_n 0, 1) := by decide +kernel
theorem d_Reader_readTerm_24 : decode zy_Reader_readTerm.2.1 24 = .ok (.invokevirtual 43, 3) := by decide +kernel
theorem d_Reader_readTerm_27 : decode zy_Reader_readTerm.2.1 27 = .ok (.aload_n 0, 1) := by decide +kernel
theorem d_Reader_readTerm_28 : decode zy_Reader_readTerm.2.1 28 = .ok (.iload_n 1, 1) := by decide +kernel
theorem d_Reader_readTerm_29 : decode zy_Reader_readTerm.2.1 29 = .ok (.invokevirtual 78, 3) := by decide +kernel
theorem d_Reader_readTerm_32 : decode zy_Reader_readTerm.2.1 32 = .ok (.aload_n 0, 1) := by decide +kernel
theorem d_Reader_readTerm_33 : decode zy_Reader_readTerm.2.1 33 = .ok (.getfield 34, 3) := by decide +kernel
theorem d_Reader_readTerm_36 : decode zy_Reader_readTerm.2.1 36 = .ok (.sipush 20008, 3) := by decide +kernel
theorem d_Reader_readTerm_39 : decode zy_Reader_readTerm.2.1 39 = .ok (.invokevirtual 62, 3) := by decide +kernel
theorem d_Reader_readTerm_42 : decode zy_Reader_readTerm.2.1 42 = .ok (.iinc 2 1, 3) := by decide +kernel
theorem d_Reader_readTerm_45 : decode zy_Reader_readTerm.2.1 45 = .ok (.goto (-38), 3) := by decide +kernel
theorem d_Reader_readTerm_48 : decode zy_Reader_readTerm.2.1 48 = .ok (.return_, 1) := by decide +kernel
theorem d_Reader_readNot_0 : decode zy_Reader_readNot.2.1 0 = .ok (.aload_n 0, 1) := by decide +kernel
theorem d_Reader_readNot_1 : decode zy_Reader_readNot.2.1 1 = .ok (.getfield 22, 3) := by decide +kernel
theorem d_Reader_readNot_4 : decode zy_Reader_readNot.2.1 4 = .ok (.bipush 11, 2) := by decide +kernel
theorem d_Reader_readNot_6 : decode zy_Reader_readNot.2.1 6 = .ok (.if_icmp .ne (29), 3) := by decide +kernel
theorem d_Reader_readNot_9 : decode zy_Reader_readNot.2.1 9 = .ok (.aload_n 0, 1) := by decide +kernel
theorem d_Reader_readNot_10 : decode zy_Reader_readNot.2.1 10 = .ok (.iload_n 1, 1) := by decide +kernel
theorem d_Reader_readNot_11 : decode zy_Reader_readNot.2.1 11 = .ok (.invokevirtual 68, 3) := by decide +kernel
theorem d_Reader_readNot_14 : decode zy_Reader_readNot.2.1 14 = .ok (.ifCond .eq (20), 3) := by decide +kernel
theorem d_Reader_readNot_17 : decode zy_Reader_readNot.2.1 17 = .ok (.aload_n 0, 1) := by decide +kernel
theorem d_Reader_readNot_18 : decode zy_Reader_readNot.2.1 18 = .ok (.iload_n 1, 1) := by decide +kernel
theorem d_Reader_readNot_19 : decode zy_Reader_readNot.2.1 19 = .ok (.iconst 1, 1) := by decide +kernel
theorem d_Reader_readNot_20 : decode zy_Reader_readNot.2.1 20 = .ok (.iadd, 1) := by decide +kernel
theorem d_Reader_readNot_21 : decode zy_Reader_readNot.2.1 21 = .ok (.invokevirtual 65, 3) := by decide +kernel
theorem d_Reader_readNot_24 : decode zy_Reader_readNot.2.1 24 = .ok (.aload_n 0, 1) := by decide +kernel
theorem d_Reader_readNot_25 : decode zy_Reader_readNot.2.1 25 = .ok (.getfield 34, 3) := by decide +kernel
theorem d_Reader_readNot_28 : decode zy_Reader_readNot.2.1 28 = .ok (.sipush 20000, 3) := by decide +kernel
theorem d_Reader_readNot_31 : decode zy_Reader_readNot.2.1 31 = .ok (.invokevirtual 62, 3) := by decide +kernel
theorem d_Reader_readNot_34 : decode zy_Reader_readNot.2.1 34 = .ok (.return_, 1) := by decide +kernel
theorem d_Reader_readNot_35 : decode zy_Reader_readNot.2.1 35 = .ok (.aload_n 0, 1) := by decide +kernel
theorem d_Reader_readNot_36 : decode zy_Reader_readNot.2.1 36 = .ok (.iload_n 1, 1) := by decide +kernel
theorem d_Reader_readNot_37 : decode zy_Reader_readNot.2.1 37 = .ok (.invokevirtual 72, 3) := by decide +kernel
theorem d_Reader_readNot_40 : decode zy_Reader_readNot.2.1 40 = .ok (.aload_n 0, 1) := by decide +kernel
theorem d_Reader_readNot_41 : decode zy_Reader_readNot.2.1 41 = .ok (.getfield 22, 3) := by decide +kernel
theorem d_Reader_readNot_44 : decode zy_Reader_readNot.2.1 44 = .ok (.bipush 60, 2) := by decide +kernel
theorem d_Reader_readNot_46 : decode zy_Reader_readNot.2.1 46 = .ok (.if_icmp .eq (12), 3) := by decide +kernel
theorem d_Reader_readNot_49 : decode zy_Reader_readNot.2.1 49 = .ok (.aload_n 0, 1) := by decide +kernel
theorem d_Reader_readNot_50 : decode zy_Reader_readNot.2.1 50 = .ok (.getfield 22, 3) := by decide +kernel
theorem d_Reader_readNot_53 : decode zy_Reader_readNot.2.1 53 = .ok (.bipush 61, 2) := by decide +kernel
theorem d_Reader_readNot_55 : decode zy_Reader_readNot.2.1 55 = .ok (.if_icmp .ne (39), 3) := by decide +kernel
theorem d_Reader_readNot_58 : decode zy_Reader_readNot.2.1 58 = .ok (.aload_n 0, 1) := by decide +kernel
theorem d_Reader_readNot_59 : decode zy_Reader_readNot.2.1 59 = .ok (.getfield 22, 3) := by decide +kernel
theorem d_Reader_readNot_62 : decode zy_Reader_readNot.2.1 62 = .ok (.bipush 60, 2) := by decide +kernel
theorem d_Reader_readNot_64 : decode zy_Reader_readNot.2.1 64 = .ok (.if_icmp .ne (9), 3) := by decide +kernel
theorem d_Reader_readNot_67 : decode zy_Reader_readNot.2.1 67 = .ok (.sipush 20004, 3) := by decide +kernel
theorem d_Reader_readNot_70 : decode zy_Reader_readNot.2.1 70 = .ok (.goto (6), 3) := by decide +kernel
theorem d_Reader_readNot_73 : decode zy_Reader_readNot.2.1 73 = .ok (.sipush 20005, 3) := by decide +kernel
theorem d_Reader_readNot_76 : decode zy_Reader_readNot.2.1 76 = .ok (.istore_n 2, 1) := by decide +kernel
theorem d_Reader_readNot_77 : decode zy_Reader_readNot.2.1 77 = .ok (.aload_n 0, 1) := by decide +kernel
theorem d_Reader_readNot_78 : decode zy_Reader_readNot.2.1 78 = .ok (.invokevirtual 43, 3) := by decide +kernel
theorem d_Reader_readNot_81 : decode zy_Reader_readNot.2.1 81 = .ok (.aload_n 0, 1) := by decide +kernel
theorem d_Reader_readNot_82 : decode zy_Reader_readNot.2.1 82 = .ok (.iload_n 1, 1) := by decide +kernel
theorem d_Reader_readNot_83 : decode zy_Reader_readNot.2.1 83 = .ok (.invokevirtual 72, 3) := by decide +kernel
theorem d_Reader_readNot_86 : decode zy_Reader_readNot.2.1 86 = .ok (.aload_n 0, 1) := by decide +kernel
theorem d_Reader_readNot_87 : decode zy_Reader_readNot.2.1 87 = .ok (.getfield 34, 3) := by decide +kernel
theorem d_Reader_readNot_90 : decode zy_Reader_readNot.2.1 90 = .ok (.iload_n 2, 1) := by decide +kernel
theorem d_Reader_readNot_91 : decode zy_Reader_readNot.2.1 91 = .ok (.invokevirtual 62, 3) := by decide +kernel
theorem d_Reader_readNot_94 : decode zy_Reader_readNot.2.1 94 = .ok (.return_, 1) := by decide +kernel
theorem d_Reader_readOne_0 : decode zy_Reader_readOne.2.1 0 = .ok (.aload_n 0, 1) := by decide +kernel
theorem d_Reader_readOne_1 : decode zy_Reader_readOne.2.1 1 = .ok (.getfield 22, 3) := by decide +kernel
theorem d_Reader_readOne_4 : decode zy_Reader_readOne.2.1 4 = .ok (.bipush 12, 2) := by decide +kernel
theorem d_Reader_readOne_6 : decode zy_Reader_readOne.2.1 6 = .ok (.if_icmp .ne (21), 3) := by decide +kernel
theorem d_Reader_readOne_9 : decode zy_Reader_readOne.2.1 9 = .ok (.aload_n 0, 1) := by decide +kernel
theorem d_Reader_readOne_10 : decode zy_Reader_readOne.2.1 10 = .ok (.getfield 34, 3) := by decide +kernel
theorem d_Reader_readOne_13 : decode zy_Reader_readOne.2.1 13 = .ok (.aload_n 0, 1) := by decide +kernel
theorem d_Reader_readOne_14 : decode zy_Reader_readOne.2.1 14 = .ok (.getfield 28, 3) := by decide +kernel
theorem d_Reader_readOne_17 : decode zy_Reader_readOne.2.1 17 = .ok (.invokevirtual 62, 3) := by decide +kernel
theorem d_Reader_readOne_20 : decode zy_Reader_readOne.2.1 20 = .ok (.aload_n 0, 1) := by decide +kernel
theorem d_Reader_readOne_21 : decode zy_Reader_readOne.2.1 21 = .ok (.invokevirtual 43, 3) := by decide +kernel
theorem d_Reader_readOne_24 : decode zy_Reader_readOne.2.1 24 = .ok (.goto (115), 3) := by decide +kernel
theorem d_Reader_readOne_27 : decode zy_Reader_readOne.2.1 27 = .ok (.aload_n 0, 1) := by decide +kernel
theorem d_Reader_readOne_28 : decode zy_Reader_readOne.2.1 28 = .ok (.getfield 22, 3) := by decide +kernel
theorem d_Reader_readOne_31 : decode zy_Reader_readOne.2.1 31 = .ok (.ifCond .lt (34), 3) := by decide +kernel
theorem d_Reader_readOne_34 : decode zy_Reader_readOne.2.1 34 = .ok (.aload_n 0, 1) := by decide +kernel
theorem d_Reader_readOne_35 : decode zy_Reader_readOne.2.1 35 = .ok (.getfield 22, 3) := by decide +kernel
theorem d_Reader_readOne_38 : decode zy_Reader_readOne.2.1 38 = .ok (.bipush 6, 2) := by decide +kernel
theorem d_Reader_readOne_40 : decode zy_Reader_readOne.2.1 40 = .ok (.if_icmp .ge (25), 3) := by decide +kernel
theorem d_Reader_readOne_43 : decode zy_Reader_readOne.2.1 43 = .ok (.aload_n 0, 1) := by decide +kernel
theorem d_Reader_readOne_44 : decode zy_Reader_readOne.2.1 44 = .ok (.getfield 34, 3) := by decide +kernel
theorem d_Reader_readOne_47 : decode zy_Reader_readOne.2.1 47 = .ok (.sipush 10000, 3) := by decide +kernel
theorem d_Reader_readOne_50 : decode zy_Reader_readOne.2.1 50 = .ok (.aload_n 0, 1) := by decide +kernel
theorem d_Reader_readOne_51 : decode zy_Reader_readOne.2.1 51 = .ok (.getfield 22, 3) := by decide +kernel
theorem d_Reader_readOne_54 : decode zy_Reader_readOne.2.1 54 = .ok (.iadd, 1) := by decide +kernel
theorem d_Reader_readOne_55 : decode zy_Reader_readOne.2.1 55 = .ok (.invokevirtual 62, 3) := by decide +kernel
theorem d_Reader_readOne_58 : decode zy_Reader_readOne.2.1 58 = .ok (.aload_n 0, 1) := by decide +kernel
theorem d_Reader_readOne_59 : decode zy_Reader_readOne.2.1 59 = .ok (.invokevirtual 43, 3) := by decide +kernel
theorem d_Reader_readOne_62 : decode zy_Reader_readOne.2.1 62 = .ok (.goto (77), 3) := by decide +kernel
theorem d_Reader_readOne_65 : decode zy_Reader_readOne.2.1 65 = .ok (.aload_n 0, 1) := by decide +kernel
theorem d_Reader_readOne_66 : decode zy_Reader_readOne.2.1 66 = .ok (.getfield 22, 3) := by decide +kernel
theorem d_Reader_readOne_69 : decode zy_Reader_readOne.2.1 69 = .ok (.bipush 45, 2) := by decide +kernel
theorem d_Reader_readOne_71 : decode zy_Reader_readOne.2.1 71 = .ok (.if_icmp .ne (31), 3) := by decide +kernel
theorem d_Reader_readOne_74 : decode zy_Reader_readOne.2.1 74 = .ok (.aload_n 0, 1) := by decide +kernel
theorem d_Reader_readOne_75 : decode zy_Reader_readOne.2.1 75 = .ok (.iload_n 1, 1) := by decide +kernel
theorem d_Reader_readOne_76 : decode zy_Reader_readOne.2.1 76 = .ok (.invokevirtual 68, 3) := by decide +kernel
theorem d_Reader_readOne_79 : decode zy_Reader_readOne.2.1 79 = .ok (.ifCond .eq (60), 3) := by decide +kernel
theorem d_Reader_readOne_82 : decode zy_Reader_readOne.2.1 82 = .ok (.aload_n 0, 1) := by decide +kernel
theorem d_Reader_readOne_83 : decode zy_Reader_readOne.2.1 83 = .ok (.iload_n 1, 1) := by decide +kernel
theorem d_Reader_readOne_84 : decode zy_Reader_readOne.2.1 84 = .ok (.iconst 1, 1) := by decide +kernel
theorem d_Reader_readOne_85 : decode zy_Reader_readOne.2.1 85 = .ok (.iadd, 1) := by decide +kernel
theorem d_Reader_readOne_86 : decode zy_Reader_readOne.2.1 86 = .ok (.invokevirtual 78, 3) := by decide +kernel
theorem d_Reader_readOne_89 : decode zy_Reader_readOne.2.1 89 = .ok (.aload_n 0, 1) := by decide +kernel
theorem d_Reader_readOne_90 : decode zy_Reader_readOne.2.1 90 = .ok (.getfield 34, 3) := by decide +kernel
theorem d_Reader_readOne_93 : decode zy_Reader_readOne.2.1 93 = .ok (.sipush 20001, 3) := by decide +kernel
theorem d_Reader_readOne_96 : decode zy_Reader_readOne.2.1 96 = .ok (.invokevirtual 62, 3) := by decide +kernel
theorem d_Reader_readOne_99 : decode zy_Reader_readOne.2.1 99 = .ok (.goto (40), 3) := by decide +kernel
theorem d_Reader_readOne_102 : decode zy_Reader_readOne.2.1 102 = .ok (.aload_n 0, 1) := by decide +kernel
theorem d_Reader_readOne_103 : decode zy_Reader_readOne.2.1 103 = .ok (.getfield 22, 3) := by decide +kernel
theorem d_Reader_readOne_106 : decode zy_Reader_readOne.2.1 106 = .ok (.bipush 40, 2) := by decide +kernel
theorem d_Reader_readOne_108 : decode zy_Reader_readOne.2.1 108 = .ok (.if_icmp .ne (27), 3) := by decide +kernel
theorem d_Reader_readOne_111 : decode zy_Reader_readOne.2.1 111 = .ok (.aload_n 0, 1) := by decide +kernel
theorem d_Reader_readOne_112 : decode zy_Reader_readOne.2.1 112 = .ok (.iload_n 1, 1) := by decide +kernel
theorem d_Reader_readOne_113 : decode zy_Reader_readOne.2.1 113 = .ok (.invokevirtual 68, 3) := by decide +kernel
theorem d_Reader_readOne_116 : decode zy_Reader_readOne.2.1 116 = .ok (.ifCond .eq (23), 3) := by decide +kernel
theorem d_Reader_readOne_119 : decode zy_Reader_readOne.2.1 119 = .ok (.aload_n 0, 1) := by decide +kernel
theorem d_Reader_readOne_120 : decode zy_Reader_readOne.2.1 120 = .ok (.iload_n 1, 1) := by decide +kernel
theorem d_Reader_readOne_121 : decode zy_Reader_readOne.2.1 121 = .ok (.iconst 1, 1) := by decide +kernel
theorem d_Reader_readOne_122 : decode zy_Reader_readOne.2.1 122 = .ok (.iadd, 1) := by decide +kernel
theorem d_Reader_readOne_123 : decode zy_Reader_readOne.2.1 123 = .ok (.invokevirtual 50, 3) := by decide +kernel
theorem d_Reader_readOne_126 : decode zy_Reader_readOne.2.1 126 = .ok (.aload_n 0, 1) := by decide +kernel
theorem d_Reader_readOne_127 : decode zy_Reader_readOne.2.1 127 = .ok (.bipush 41, 2) := by decide +kernel
theorem d_Reader_readOne_129 : decode zy_Reader_readOne.2.1 129 = .ok (.invokevirtual 46, 3) := by decide +kernel
theorem d_Reader_readOne_132 : decode zy_Reader_readOne.2.1 132 = .ok (.goto (7), 3) := by decide +kernel
theorem d_Reader_readOne_135 : decode zy_Reader_readOne.2.1 135 = .ok (.aload_n 0, 1) := by decide +kernel
theorem d_Reader_readOne_136 : decode zy_Reader_readOne.2.1 136 = .ok (.invokevirtual 56, 3) := by decide +kernel
theorem d_Reader_readOne_139 : decode zy_Reader_readOne.2.1 139 = .ok (.return_, 1) := by decide +kernel
theorem d_M_findBest_0 : decode zy_M_findBest.2.1 0 = .ok (.aload_n 0, 1) := by decide +kernel
theorem d_M_findBest_1 : decode zy_M_findBest.2.1 1 = .ok (.iconst 1, 1) := by decide +kernel
theorem d_M_findBest_2 : decode zy_M_findBest.2.1 2 = .ok (.putfield 266, 3) := by decide +kernel
theorem d_M_findBest_5 : decode zy_M_findBest.2.1 5 = .ok (.aload_n 0, 1) := by decide +kernel
theorem d_M_findBest_6 : decode zy_M_findBest.2.1 6 = .ok (.iconst (-1), 1) := by decide +kernel
theorem d_M_findBest_7 : decode zy_M_findBest.2.1 7 = .ok (.putfield 269, 3) := by decide +kernel
theorem d_M_findBest_10 : decode zy_M_findBest.2.1 10 = .ok (.aload_n 0, 1) := by decide +kernel
theorem d_M_findBest_11 : decode zy_M_findBest.2.1 11 = .ok (.iconst 0, 1) := by decide +kernel
theorem d_M_findBest_12 : decode zy_M_findBest.2.1 12 = .ok (.iload_n 1, 1) := by decide +kernel
theorem d_M_findBest_13 : decode zy_M_findBest.2.1 13 = .ok (.iconst 0, 1) := by decide +kernel
theorem d_M_findBest_14 : decode zy_M_findBest.2.1 14 = .ok (.invokevirtual 272, 3) := by decide +kernel
theorem d_M_findBest_17 : decode zy_M_findBest.2.1 17 = .ok (.ireturn, 1) := by decide +kernel
theorem d_M_isFilled_0 : decode zy_M_isFilled.2.1 0 = .ok (.aload_n 0, 1) := by decide +kernel
theorem d_M_isFilled_1 : decode zy_M_isFilled.2.1 1 = .ok (.iconst 0, 1) := by decide +kernel
theorem d_M_isFilled_2 : decode zy_M_isFilled.2.1 2 = .ok (.putfield 266, 3) := by decide +kernel
theorem d_M_isFilled_5 : decode zy_M_isFilled.2.1 5 = .ok (.aload_n 0, 1) := by decide +kernel
theorem d_M_isFilled_6 : decode zy_M_isFilled.2.1 6 = .ok (.iconst 0, 1) := by decide +kernel
theorem d_M_isFilled_7 : decode zy_M_isFilled.2.1 7 = .ok (.iload_n 1, 1) := by decide +kernel
theorem d_M_isFilled_8 : decode zy_M_isFilled.2.1 8 = .ok (.iconst 0, 1) := by decide +kernel
theorem d_M_isFilled_9 : decode zy_M_isFilled.2.1 9 = .ok (.invokevirtual 272, 3) := by decide +kernel
theorem d_M_isFilled_12 : decode zy_M_isFilled.2.1 12 = .ok (.ireturn, 1) := by decide +kernel
theorem d_M_done_0 : decode zy_M_done.2.1 0 = .ok (.aload_n 0, 1) := by decide +kernel
theorem d_M_done_1 : decode zy_M_done.2.1 1 = .ok (.iload_n 1, 1) := by decide +kernel
theorem d_M_done_2 : decode zy_M_done.2.1 2 = .ok (.invokevirtual 276, 3) := by decide +kernel
theorem d_M_done_5 : decode zy_M_done.2.1 5 = .ok (.ifCond .ne (6), 3) := by decide +kernel
theorem d_M_done_8 : decode zy_M_done.2.1 8 = .ok (.bipush (-2), 2) := by decide +kernel
theorem d_M_done_10 : decode zy_M_done.2.1 10 = .ok (.ireturn, 1) := by decide +kernel
theorem d_M_done_11 : decode zy_M_done.2.1 11 = .ok (.aload_n 0, 1) := by decide +kernel
theorem d_M_done_12 : decode zy_M_done.2.1 12 = .ok (.invokevirtual 279, 3) := by decide +kernel
theorem d_M_done_15 : decode zy_M_done.2.1 15 = .ok (.aload_n 0, 1) := by decide +kernel
theorem d_M_done_16 : decode zy_M_done.2.1 16 = .ok (.invokevirtual 282, 3) := by decide +kernel
theorem d_M_done_19 : decode zy_M_done.2.1 19 = .ok (.aload_n 0, 1) := by decide +kernel
theorem d_M_done_20 : decode zy_M_done.2.1 20 = .ok (.iload_n 1, 1) := by decide +kernel
theorem d_M_done_21 : decode zy_M_done.2.1 21 = .ok (.invokevirtual 285, 3) := by decide +kernel
theorem d_M_done_24 : decode zy_M_done.2.1 24 = .ok (.ifCond .ne (6), 3) := by decide +kernel
theorem d_M_done_27 : decode zy_M_done.2.1 27 = .ok (.bipush (-3), 2) := by decide +kernel
theorem d_M_done_29 : decode zy_M_done.2.1 29 = .ok (.ireturn, 1) := by decide +kernel
theorem d_M_done_30 : decode zy_M_done.2.1 30 = .ok (.iconst 0, 1) := by decide +kernel
theorem d_M_done_31 : decode zy_M_done.2.1 31 = .ok (.istore_n 2, 1) := by decide +kernel
theorem d_M_done_32 : decode zy_M_done.2.1 32 = .ok (.iconst 0, 1) := by decide +kernel
theorem d_M_done_33 : decode zy_M_done.2.1 33 = .ok (.istore_n 3, 1) := by decide +kernel
theorem d_M_done_34 : decode zy_M_done.2.1 34 = .ok (.iload_n 3, 1) := by decide +kernel
theorem d_M_done_35 : decode zy_M_done.2.1 35 = .ok (.aload_n 0, 1) := by decide +kernel
theorem d_M_done_36 : decode zy_M_done.2.1 36 = .ok (.getfield 106, 3) := by decide +kernel
theorem d_M_done_39 : decode zy_M_done.2.1 39 = .ok (.if_icmp .ge (85), 3) := by decide +kernel
theorem d_M_done_42 : decode zy_M_done.2.1 42 = .ok (.aload_n 0, 1) := by decide +kernel
theorem d_M_done_43 : decode zy_M_done.2.1 43 = .ok (.getfield 76, 3) := by decide +kernel
theorem d_M_done_46 : decode zy_M_done.2.1 46 = .ok (.iload_n 3, 1) := by decide +kernel
theorem d_M_done_47 : decode zy_M_done.2.1 47 = .ok (.iaload, 1) := by decide +kernel
theorem d_M_done_48 : decode zy_M_done.2.1 48 = .ok (.istore 4, 2) := by decide +kernel
theorem d_M_done_50 : decode zy_M_done.2.1 50 = .ok (.iload 4, 2) := by decide +kernel
theorem d_M_done_52 : decode zy_M_done.2.1 52 = .ok (.ifCond .ge (6), 3) := by decide +kernel
theorem d_M_done_55 : decode zy_M_done.2.1 55 = .ok (.goto (63), 3) := by decide +kernel
theorem d_M_done_58 : decode zy_M_done.2.1 58 = .ok (.iinc 2 1, 3) := by decide +kernel
theorem d_M_done_61 : decode zy_M_done.2.1 61 = .ok (.aload_n 0, 1) := by decide +kernel
theorem d_M_done_62 : decode zy_M_done.2.1 62 = .ok (.getfield 39, 3) := by decide +kernel
theorem d_M_done_65 : decode zy_M_done.2.1 65 = .ok (.bipush 6, 2) := by decide +kernel
theorem d_M_done_67 : decode zy_M_done.2.1 67 = .ok (.iload 4, 2) := by decide +kernel
theorem d_M_done_69 : decode zy_M_done.2.1 69 = .ok (.imul, 1) := by decide +kernel
theorem d_M_done_70 : decode zy_M_done.2.1 70 = .ok (.iload_n 3, 1) := by decide +kernel
theorem d_M_done_71 : decode zy_M_done.2.1 71 = .ok (.iadd, 1) := by decide +kernel
theorem d_M_done_72 : decode zy_M_done.2.1 72 = .ok (.baload, 1) := by decide +kernel
theorem d_M_done_73 : decode zy_M_done.2.1 73 = .ok (.ifCond .eq (19), 3) := by decide +kernel
theorem d_M_done_76 : decode zy_M_done.2.1 76 = .ok (.aload_n 0, 1) := by decide +kernel
theorem d_M_done_77 : decode zy_M_done.2.1 77 = .ok (.getfield 36, 3) := by decide +kernel
theorem d_M_done_80 : decode zy_M_done.2.1 80 = .ok (.bipush 6, 2) := by decide +kernel
theorem d_M_done_82 : decode zy_M_done.2.1 82 = .ok (.iload 4, 2) := by decide +kernel
theorem d_M_done_84 : decode zy_M_done.2.1 84 = .ok (.imul, 1) := by decide +kernel
theorem d_M_done_85 : decode zy_M_done.2.1 85 = .ok (.iload_n 3, 1) := by decide +kernel
theorem d_M_done_86 : decode zy_M_done.2.1 86 = .ok (.iadd, 1) := by decide +kernel
theorem d_M_done_87 : decode zy_M_done.2.1 87 = .ok (.aload_n 0, 1) := by decide +kernel
theorem d_M_done_88 : decode zy_M_done.2.1 88 = .ok (.getfield 130, 3) := by decide +kernel
theorem d_M_done_91 : decode zy_M_done.2.1 91 = .ok (.iastore, 1) := by decide +kernel
theorem d_M_done_92 : decode zy_M_done.2.1 92 = .ok (.aload_n 0, 1) := by decide +kernel
theorem d_M_done_93 : decode zy_M_done.2.1 93 = .ok (.getfield 33, 3) := by decide +kernel
theorem d_M_done_96 : decode zy_M_done.2.1 96 = .ok (.iload 4, 2) := by decide +kernel
theorem d_M_done_98 : decode zy_M_done.2.1 98 = .ok (.dup2, 1) := by decide +kernel
theorem d_M_done_99 : decode zy_M_done.2.1 99 = .ok (.iaload, 1) := by decide +kernel
theorem d_M_done_100 : decode zy_M_done.2.1 100 = .ok (.aload_n 0, 1) := by decide +kernel
theorem d_M_done_101 : decode zy_M_done.2.1 101 = .ok (.getfield 24, 3) := by decide +kernel
theorem d_M_done_104 : decode zy_M_done.2.1 104 = .ok (.iload 4, 2) := by decide +kernel
theorem d_M_done_106 : decode zy_M_done.2.1 106 = .ok (.iaload, 1) := by decide +kernel
theorem d_M_done_107 : decode zy_M_done.2.1 107 = .ok (.iload_n 3, 1) := by decide +kernel
theorem d_M_done_108 : decode zy_M_done.2.1 108 = .ok (.if_icmp .ne (7), 3) := by decide +kernel
theorem d_M_done_111 : decode zy_M_done.2.1 111 = .ok (.iconst 0, 1) := by decide +kernel
theorem d_M_done_112 : decode zy_M_done.2.1 112 = .ok (.goto (4), 3) := by decide +kernel
theorem d_M_done_115 : decode zy_M_done.2.1 115 = .ok (.iconst 1, 1) := by decide +kernel
theorem d_M_done_116 : decode zy_M_done.2.1 116 = .ok (.iadd, 1) := by decide +kernel
theorem d_M_done_117 : decode zy_M_done.2.1 117 = .ok (.iastore, 1) := by decide +kernel
theorem d_M_done_118 : decode zy_M_done.2.1 118 = .ok (.iinc 3 1, 3) := by decide +kernel
theorem d_M_done_121 : decode zy_M_done.2.1 121 = .ok (.goto (-87), 3) := by decide +kernel
theorem d_M_done_124 : decode zy_M_done.2.1 124 = .ok (.iload_n 2, 1) := by decide +kernel
theorem d_M_done_125 : decode zy_M_done.2.1 125 = .ok (.ireturn, 1) := by decide +kernel
theorem d_M_fill_0 : decode zy_M_fill.2.1 0 = .ok (.aload_n 0, 1) := by decide +kernel
theorem d_M_fill_1 : decode zy_M_fill.2.1 1 = .ok (.iload_n 1, 1) := by decide +kernel
theorem d_M_fill_2 : decode zy_M_fill.2.1 2 = .ok (.invokevirtual 276, 3) := by decide +kernel
theorem d_M_fill_5 : decode zy_M_fill.2.1 5 = .ok (.ifCond .eq (16), 3) := by decide +kernel
theorem d_M_fill_8 : decode zy_M_fill.2.1 8 = .ok (.iload_n 2, 1) := by decide +kernel
theorem d_M_fill_9 : decode zy_M_fill.2.1 9 = .ok (.iconst (-1), 1) := by decide +kernel
theorem d_M_fill_10 : decode zy_M_fill.2.1 10 = .ok (.if_icmp .eq (14), 3) := by decide +kernel
theorem d_M_fill_13 : decode zy_M_fill.2.1 13 = .ok (.aload_n 0, 1) := by decide +kernel
theorem d_M_fill_14 : decode zy_M_fill.2.1 14 = .ok (.iload_n 2, 1) := by decide +kernel
theorem d_M_fill_15 : decode zy_M_fill.2.1 15 = .ok (.invokevirtual 120, 3) := by decide +kernel
theorem d_M_fill_18 : decode zy_M_fill.2.1 18 = .ok (.ifCond .ne (6), 3) := by decide +kernel
theorem d_M_fill_21 : decode zy_M_fill.2.1 21 = .ok (.bipush (-2), 2) := by decide +kernel
theorem d_M_fill_23 : decode zy_M_fill.2.1 23 = .ok (.ireturn, 1) := by decide +kernel
theorem d_M_fill_24 : decode zy_M_fill.2.1 24 = .ok (.aload_n 0, 1) := by decide +kernel
theorem d_M_fill_25 : decode zy_M_fill.2.1 25 = .ok (.invokevirtual 279, 3) := by decide +kernel
theorem d_M_fill_28 : decode zy_M_fill.2.1 28 = .ok (.aload_n 0, 1) := by decide +kernel
theorem d_M_fill_29 : decode zy_M_fill.2.1 29 = .ok (.invokevirtual 282, 3) := by decide +kernel
theorem d_M_fill_32 : decode zy_M_fill.2.1 32 = .ok (.aload_n 0, 1) := by decide +kernel
theorem d_M_fill_33 : decode zy_M_fill.2.1 33 = .ok (.iload_n 1, 1) := by decide +kernel
theorem d_M_fill_34 : decode zy_M_fill.2.1 34 = .ok (.invokevirtual 285, 3) := by decide +kernel
theorem d_M_fill_37 : decode zy_M_fill.2.1 37 = .ok (.ifCond .ne (6), 3) := by decide +kernel
theorem d_M_fill_40 : decode zy_M_fill.2.1 40 = .ok (.bipush (-3), 2) := by decide +kernel
theorem d_M_fill_42 : decode zy_M_fill.2.1 42 = .ok (.ireturn, 1) := by decide +kernel
theorem d_M_fill_43 : decode zy_M_fill.2.1 43 = .ok (.iload_n 2, 1) := by decide +kernel
theorem d_M_fill_44 : decode zy_M_fill.2.1 44 = .ok (.iconst (-1), 1) := by decide +kernel
theorem d_M_fill_45 : decode zy_M_fill.2.1 45 = .ok (.if_icmp .ne (10), 3) := by decide +kernel
theorem d_M_fill_48 : decode zy_M_fill.2.1 48 = .ok (.aload_n 0, 1) := by decide +kernel
theorem d_M_fill_49 : decode zy_M_fill.2.1 49 = .ok (.getfield 269, 3) := by decide +kernel
theorem d_M_fill_52 : decode zy_M_fill.2.1 52 = .ok (.goto (9), 3) := by decide +kernel
theorem d_M_fill_55 : decode zy_M_fill.2.1 55 = .ok (.aload_n 0, 1) := by decide +kernel
theorem d_M_fill_56 : decode zy_M_fill.2.1 56 = .ok (.getfield 76, 3) := by decide +kernel
theorem d_M_fill_59 : decode zy_M_fill.2.1 59 = .ok (.iload_n 2, 1) := by decide +kernel
theorem d_M_fill_60 : decode zy_M_fill.2.1 60 = .ok (.iaload, 1) := by decide +kernel
theorem d_M_fill_61 : decode zy_M_fill.2.1 61 = .ok (.ireturn, 1) := by decide +kernel
theorem d_M_sure_0 : decode zy_M_sure.2.1 0 = .ok (.iload_n 1, 1) := by decide +kernel
theorem d_M_sure_1 : decode zy_M_sure.2.1 1 = .ok (.i2l, 1) := by decide +kernel
theorem d_M_sure_2 : decode zy_M_sure.2.1 2 = .ok (.lconst 0, 1) := by decide +kernel
theorem d_M_sure_3 : decode zy_M_sure.2.1 3 = .ok (.lconst 1, 1) := by decide +kernel
theorem d_M_sure_4 : decode zy_M_sure.2.1 4 = .ok (.invokestatic 109, 3) := by decide +kernel
theorem d_M_sure_7 : decode zy_M_sure.2.1 7 = .ok (.ifCond .ne (7), 3) := by decide +kernel
theorem d_M_sure_10 : decode zy_M_sure.2.1 10 = .ok (.ldc2_w 328, 3) := by decide +kernel
theorem d_M_sure_13 : decode zy_M_sure.2.1 13 = .ok (.lreturn, 1) := by decide +kernel
theorem d_M_sure_14 : decode zy_M_sure.2.1 14 = .ok (.aload_n 0, 1) := by decide +kernel
theorem d_M_sure_15 : decode zy_M_sure.2.1 15 = .ok (.invokevirtual 279, 3) := by decide +kernel
theorem d_M_sure_18 : decode zy_M_sure.2.1 18 = .ok (.lconst 0, 1) := by decide +kernel
theorem d_M_sure_19 : decode zy_M_sure.2.1 19 = .ok (.lstore_n 2, 1) := by decide +kernel
theorem d_M_sure_20 : decode zy_M_sure.2.1 20 = .ok (.lconst 1, 1) := by decide +kernel
theorem d_M_sure_21 : decode zy_M_sure.2.1 21 = .ok (.lstore 4, 2) := by decide +kernel
theorem d_M_sure_23 : decode zy_M_sure.2.1 23 = .ok (.iconst 0, 1) := by decide +kernel
theorem d_M_sure_24 : decode zy_M_sure.2.1 24 = .ok (.istore 6, 2) := by decide +kernel
theorem d_M_sure_26 : decode zy_M_sure.2.1 26 = .ok (.iload 6, 2) := by decide +kernel
theorem d_M_sure_28 : decode zy_M_sure.2.1 28 = .ok (.aload_n 0, 1) := by decide +kernel
theorem d_M_sure_29 : decode zy_M_sure.2.1 29 = .ok (.getfield 113, 3) := by decide +kernel
theorem d_M_sure_32 : decode zy_M_sure.2.1 32 = .ok (.if_icmp .ge (17), 3) := by decide +kernel
theorem d_M_sure_35 : decode zy_M_sure.2.1 35 = .ok (.lload 4, 2) := by decide +kernel
theorem d_M_sure_37 : decode zy_M_sure.2.1 37 = .ok (.ldc2_w 330, 3) := by decide +kernel
theorem d_M_sure_40 : decode zy_M_sure.2.1 40 = .ok (.lmul, 1) := by decide +kernel
theorem d_M_sure_41 : decode zy_M_sure.2.1 41 = .ok (.lstore 4, 2) := by decide +kernel
theorem d_M_sure_43 : decode zy_M_sure.2.1 43 = .ok (.iinc 6 1, 3) := by decide +kernel
theorem d_M_sure_46 : decode zy_M_sure.2.1 46 = .ok (.goto (-20), 3) := by decide +kernel
theorem d_M_sure_49 : decode zy_M_sure.2.1 49 = .ok (.iconst 0, 1) := by decide +kernel
theorem d_M_sure_50 : decode zy_M_sure.2.1 50 = .ok (.istore 6, 2) := by decide +kernel
theorem d_M_sure_52 : decode zy_M_sure.2.1 52 = .ok (.iload 6, 2) := by decide +kernel
theorem d_M_sure_54 : decode zy_M_sure.2.1 54 = .ok (.iconst 1, 1) := by decide +kernel
theorem d_M_sure_55 : decode zy_M_sure.2.1 55 = .ok (.aload_n 0, 1) := by decide +kernel
theorem d_M_sure_56 : decode zy_M_sure.2.1 56 = .ok (.getfield 113, 3) := by decide +kernel
theorem d_M_sure_59 : decode zy_M_sure.2.1 59 = .ok (.ishl, 1) := by decide +kernel
theorem d_M_sure_60 : decode zy_M_sure.2.1 60 = .ok (.if_icmp .ge (93), 3) := by decide +kernel
theorem d_M_sure_63 : decode zy_M_sure.2.1 63 = .ok (.lconst 1, 1) := by decide +kernel
theorem d_M_sure_64 : decode zy_M_sure.2.1 64 = .ok (.lstore 7, 2) := by decide +kernel
theorem d_M_sure_66 : decode zy_M_sure.2.1 66 = .ok (.iconst 0, 1) := by decide +kernel
theorem d_M_sure_67 : decode zy_M_sure.2.1 67 = .ok (.istore 9, 2) := by decide +kernel
theorem d_M_sure_69 : decode zy_M_sure.2.1 69 = .ok (.iload 9, 2) := by decide +kernel
theorem d_M_sure_71 : decode zy_M_sure.2.1 71 = .ok (.aload_n 0, 1) := by decide +kernel
theorem d_M_sure_72 : decode zy_M_sure.2.1 72 = .ok (.getfield 113, 3) := by decide +kernel
theorem d_M_sure_75 : decode zy_M_sure.2.1 75 = .ok (.if_icmp .ge (47), 3) := by decide +kernel
theorem d_M_sure_78 : decode zy_M_sure.2.1 78 = .ok (.lload 7, 2) := by decide +kernel
theorem d_M_sure_80 : decode zy_M_sure.2.1 80 = .ok (.iload 6, 2) := by decide +kernel
theorem d_M_sure_82 : decode zy_M_sure.2.1 82 = .ok (.iload 9, 2) := by decide +kernel
theorem d_M_sure_84 : decode zy_M_sure.2.1 84 = .ok (.ishr, 1) := by decide +kernel
theorem d_M_sure_85 : decode zy_M_sure.2.1 85 = .ok (.iconst 1, 1) := by decide +kernel
theorem d_M_sure_86 : decode zy_M_sure.2.1 86 = .ok (.iand, 1) := by decide +kernel
theorem d_M_sure_87 : decode zy_M_sure.2.1 87 = .ok (.iconst 1, 1) := by decide +kernel
theorem d_M_sure_88 : decode zy_M_sure.2.1 88 = .ok (.if_icmp .ne (14), 3) := by decide +kernel
theorem d_M_sure_91 : decode zy_M_sure.2.1 91 = .ok (.aload_n 0, 1) := by decide +kernel
theorem d_M_sure_92 : decode zy_M_sure.2.1 92 = .ok (.getfield 30, 3) := by decide +kernel
theorem d_M_sure_95 : decode zy_M_sure.2.1 95 = .ok (.iload 9, 2) := by decide +kernel
theorem d_M_sure_97 : decode zy_M_sure.2.1 97 = .ok (.iaload, 1) := by decide +kernel
theorem d_M_sure_98 : decode zy_M_sure.2.1 98 = .ok (.i2l, 1) := by decide +kernel
theorem d_M_sure_99 : decode zy_M_sure.2.1 99 = .ok (.goto (14), 3) := by decide +kernel
theorem d_M_sure_102 : decode zy_M_sure.2.1 102 = .ok (.bipush 10, 2) := by decide +kernel
theorem d_M_sure_104 : decode zy_M_sure.2.1 104 = .ok (.aload_n 0, 1) := by decide +kernel
theorem d_M_sure_105 : decode zy_M_sure.2.1 105 = .ok (.getfield 30, 3) := by decide +kernel
theorem d_M_sure_108 : decode zy_M_sure.2.1 108 = .ok (.iload 9, 2) := by decide +kernel
theorem d_M_sure_110 : decode zy_M_sure.2.1 110 = .ok (.iaload, 1) := by decide +kernel
theorem d_M_sure_111 : decode zy_M_sure.2.1 111 = .ok (.isub, 1) := by decide +kernel
theorem d_M_sure_112 : decode zy_M_sure.2.1 112 = .ok (.i2l, 1) := by decide +kernel
theorem d_M_sure_113 : decode zy_M_sure.2.1 113 = .ok (.lmul, 1) := by decide +kernel
theorem d_M_sure_114 : decode zy_M_sure.2.1 114 = .ok (.lstore 7, 2) := by decide +kernel
theorem d_M_sure_116 : decode zy_M_sure.2.1 116 = .ok (.iinc 9 1, 3) := by decide +kernel
theorem d_M_sure_119 : decode zy_M_sure.2.1 119 = .ok (.goto (-50), 3) := by decide +kernel
theorem d_M_sure_122 : decode zy_M_sure.2.1 122 = .ok (.lload_n 2, 1) := by decide +kernel
theorem d_M_sure_123 : decode zy_M_sure.2.1 123 = .ok (.lload 7, 2) := by decide +kernel
theorem d_M_sure_125 : decode zy_M_sure.2.1 125 = .ok (.lconst 0, 1) := by decide +kernel
theorem d_M_sure_126 : decode zy_M_sure.2.1 126 = .ok (.lcmp, 1) := by decide +kernel
theorem d_M_sure_127 : decode zy_M_sure.2.1 127 = .ok (.ifCond .le (17), 3) := by decide +kernel
theorem d_M_sure_130 : decode zy_M_sure.2.1 130 = .ok (.aload_n 0, 1) := by decide +kernel
theorem d_M_sure_131 : decode zy_M_sure.2.1 131 = .ok (.iload 6, 2) := by decide +kernel
theorem d_M_sure_133 : decode zy_M_sure.2.1 133 = .ok (.invokevirtual 291, 3) := by decide +kernel
theorem d_M_sure_136 : decode zy_M_sure.2.1 136 = .ok (.ifCond .eq (8), 3) := by decide +kernel
theorem d_M_sure_139 : decode zy_M_sure.2.1 139 = .ok (.lload 7, 2) := by decide +kernel
theorem d_M_sure_141 : decode zy_M_sure.2.1 141 = .ok (.goto (4), 3) := by decide +kernel
theorem d_M_sure_144 : decode zy_M_sure.2.1 144 = .ok (.lconst 0, 1) := by decide +kernel
theorem d_M_sure_145 : decode zy_M_sure.2.1 145 = .ok (.ladd, 1) := by decide +kernel
theorem d_M_sure_146 : decode zy_M_sure.2.1 146 = .ok (.lstore_n 2, 1) := by decide +kernel
theorem d_M_sure_147 : decode zy_M_sure.2.1 147 = .ok (.iinc 6 1, 3) := by decide +kernel
theorem d_M_sure_150 : decode zy_M_sure.2.1 150 = .ok (.goto (-98), 3) := by decide +kernel
theorem d_M_sure_153 : decode zy_M_sure.2.1 153 = .ok (.lload_n 2, 1) := by decide +kernel
theorem d_M_sure_154 : decode zy_M_sure.2.1 154 = .ok (.lload 4, 2) := by decide +kernel
theorem d_M_sure_156 : decode zy_M_sure.2.1 156 = .ok (.iload_n 1, 1) := by decide +kernel
theorem d_M_sure_157 : decode zy_M_sure.2.1 157 = .ok (.invokestatic 332, 3) := by decide +kernel
theorem d_M_sure_160 : decode zy_M_sure.2.1 160 = .ok (.lreturn, 1) := by decide +kernel
theorem d_M_worstOf_0 : decode zy_M_worstOf.2.1 0 = .ok (.iconst 0, 1) := by decide +kernel
theorem d_M_worstOf_1 : decode zy_M_worstOf.2.1 1 = .ok (.istore_n 2, 1) := by decide +kernel
theorem d_M_worstOf_2 : decode zy_M_worstOf.2.1 2 = .ok (.iload_n 2, 1) := by decide +kernel
theorem d_M_worstOf_3 : decode zy_M_worstOf.2.1 3 = .ok (.iconst 1, 1) := by decide +kernel
theorem d_M_worstOf_4 : decode zy_M_worstOf.2.1 4 = .ok (.aload_n 0, 1) := by decide +kernel
theorem d_M_worstOf_5 : decode zy_M_worstOf.2.1 5 = .ok (.getfield 113, 3) := by decide +kernel
theorem d_M_worstOf_8 : decode zy_M_worstOf.2.1 8 = .ok (.ishl, 1) := by decide +kernel
theorem d_M_worstOf_9 : decode zy_M_worstOf.2.1 9 = .ok (.if_icmp .ge (27), 3) := by decide +kernel
theorem d_M_worstOf_12 : decode zy_M_worstOf.2.1 12 = .ok (.iload_n 2, 1) := by decide +kernel
theorem d_M_worstOf_13 : decode zy_M_worstOf.2.1 13 = .ok (.invokestatic 288, 3) := by decide +kernel
theorem d_M_worstOf_16 : decode zy_M_worstOf.2.1 16 = .ok (.iload_n 1, 1) := by decide +kernel
theorem d_M_worstOf_17 : decode zy_M_worstOf.2.1 17 = .ok (.if_icmp .ne (13), 3) := by decide +kernel
theorem d_M_worstOf_20 : decode zy_M_worstOf.2.1 20 = .ok (.aload_n 0, 1) := by decide +kernel
theorem d_M_worstOf_21 : decode zy_M_worstOf.2.1 21 = .ok (.iload_n 2, 1) := by decide +kernel
theorem d_M_worstOf_22 : decode zy_M_worstOf.2.1 22 = .ok (.invokevirtual 291, 3) := by decide +kernel
theorem d_M_worstOf_25 : decode zy_M_worstOf.2.1 25 = .ok (.ifCond .ne (5), 3) := by decide +kernel
theorem d_M_worstOf_28 : decode zy_M_worstOf.2.1 28 = .ok (.iload_n 2, 1) := by decide +kernel
theorem d_M_worstOf_29 : decode zy_M_worstOf.2.1 29 = .ok (.ireturn, 1) := by decide +kernel
theorem d_M_worstOf_30 : decode zy_M_worstOf.2.1 30 = .ok (.iinc 2 1, 3) := by decide +kernel
theorem d_M_worstOf_33 : decode zy_M_worstOf.2.1 33 = .ok (.goto (-31), 3) := by decide +kernel
theorem d_M_worstOf_36 : decode zy_M_worstOf.2.1 36 = .ok (.iconst (-1), 1) := by decide +kernel
theorem d_M_worstOf_37 : decode zy_M_worstOf.2.1 37 = .ok (.ireturn, 1) := by decide +kernel
theorem d_M_holds_0 : decode zy_M_holds.2.1 0 = .ok (.iload_n 1, 1) := by decide +kernel
theorem d_M_holds_1 : decode zy_M_holds.2.1 1 = .ok (.i2l, 1) := by decide +kernel
theorem d_M_holds_2 : decode zy_M_holds.2.1 2 = .ok (.lconst 0, 1) := by decide +kernel
theorem d_M_holds_3 : decode zy_M_holds.2.1 3 = .ok (.ldc2_w 294, 3) := by decide +kernel
theorem d_M_holds_6 : decode zy_M_holds.2.1 6 = .ok (.invokestatic 109, 3) := by decide +kernel
theorem d_M_holds_9 : decode zy_M_holds.2.1 9 = .ok (.ifCond .ne (6), 3) := by decide +kernel
theorem d_M_holds_12 : decode zy_M_holds.2.1 12 = .ok (.bipush (-2), 2) := by decide +kernel
theorem d_M_holds_14 : decode zy_M_holds.2.1 14 = .ok (.ireturn, 1) := by decide +kernel
theorem d_M_holds_15 : decode zy_M_holds.2.1 15 = .ok (.aload_n 0, 1) := by decide +kernel
theorem d_M_holds_16 : decode zy_M_holds.2.1 16 = .ok (.invokevirtual 279, 3) := by decide +kernel
theorem d_M_holds_19 : decode zy_M_holds.2.1 19 = .ok (.aload_n 0, 1) := by decide +kernel
theorem d_M_holds_20 : decode zy_M_holds.2.1 20 = .ok (.iload_n 1, 1) := by decide +kernel
theorem d_M_holds_21 : decode zy_M_holds.2.1 21 = .ok (.invokevirtual 296, 3) := by decide +kernel
theorem d_M_holds_24 : decode zy_M_holds.2.1 24 = .ok (.ifCond .ge (7), 3) := by decide +kernel
theorem d_M_holds_27 : decode zy_M_holds.2.1 27 = .ok (.iconst 1, 1) := by decide +kernel
theorem d_M_holds_28 : decode zy_M_holds.2.1 28 = .ok (.goto (4), 3) := by decide +kernel
theorem d_M_holds_31 : decode zy_M_holds.2.1 31 = .ok (.iconst 0, 1) := by decide +kernel
theorem d_M_holds_32 : decode zy_M_holds.2.1 32 = .ok (.ireturn, 1) := by decide +kernel
theorem d_M_ring_0 : decode zy_M_ring.2.1 0 = .ok (.aload_n 0, 1) := by decide +kernel
theorem d_M_ring_1 : decode zy_M_ring.2.1 1 = .ok (.invokevirtual 279, 3) := by decide +kernel
theorem d_M_ring_4 : decode zy_M_ring.2.1 4 = .ok (.iconst 0, 1) := by decide +kernel
theorem d_M_ring_5 : decode zy_M_ring.2.1 5 = .ok (.istore_n 1, 1) := by decide +kernel
theorem d_M_ring_6 : decode zy_M_ring.2.1 6 = .ok (.iload_n 1, 1) := by decide +kernel
theorem d_M_ring_7 : decode zy_M_ring.2.1 7 = .ok (.aload_n 0, 1) := by decide +kernel
theorem d_M_ring_8 : decode zy_M_ring.2.1 8 = .ok (.getfield 113, 3) := by decide +kernel
theorem d_M_ring_11 : decode zy_M_ring.2.1 11 = .ok (.if_icmp .ge (53), 3) := by decide +kernel
theorem d_M_ring_14 : decode zy_M_ring.2.1 14 = .ok (.aload_n 0, 1) := by decide +kernel
theorem d_M_ring_15 : decode zy_M_ring.2.1 15 = .ok (.getfield 24, 3) := by decide +kernel
theorem d_M_ring_18 : decode zy_M_ring.2.1 18 = .ok (.iload_n 1, 1) := by decide +kernel
theorem d_M_ring_19 : decode zy_M_ring.2.1 19 = .ok (.iconst 1, 1) := by decide +kernel
theorem d_M_ring_20 : decode zy_M_ring.2.1 20 = .ok (.iadd, 1) := by decide +kernel
theorem d_M_ring_21 : decode zy_M_ring.2.1 21 = .ok (.aload_n 0, 1) := by decide +kernel
theorem d_M_ring_22 : decode zy_M_ring.2.1 22 = .ok (.getfield 113, 3) := by decide +kernel
theorem d_M_ring_25 : decode zy_M_ring.2.1 25 = .ok (.irem, 1) := by decide +kernel
theorem d_M_ring_26 : decode zy_M_ring.2.1 26 = .ok (.iaload, 1) := by decide +kernel
theorem d_M_ring_27 : decode zy_M_ring.2.1 27 = .ok (.istore_n 2, 1) := by decide +kernel
theorem d_M_ring_28 : decode zy_M_ring.2.1 28 = .ok (.aload_n 0, 1) := by decide +kernel
theorem d_M_ring_29 : decode zy_M_ring.2.1 29 = .ok (.getfield 67, 3) := by decide +kernel
theorem d_M_ring_32 : decode zy_M_ring.2.1 32 = .ok (.iload_n 1, 1) := by decide +kernel
theorem d_M_ring_33 : decode zy_M_ring.2.1 33 = .ok (.dup2, 1) := by decide +kernel
theorem d_M_ring_34 : decode zy_M_ring.2.1 34 = .ok (.iaload, 1) := by decide +kernel
theorem d_M_ring_35 : decode zy_M_ring.2.1 35 = .ok (.aload_n 0, 1) := by decide +kernel
theorem d_M_ring_36 : decode zy_M_ring.2.1 36 = .ok (.getfield 42, 3) := by decide +kernel
theorem d_M_ring_39 : decode zy_M_ring.2.1 39 = .ok (.bipush 6, 2) := by decide +kernel
theorem d_M_ring_41 : decode zy_M_ring.2.1 41 = .ok (.iload_n 1, 1) := by decide +kernel
theorem d_M_ring_42 : decode zy_M_ring.2.1 42 = .ok (.imul, 1) := by decide +kernel
theorem d_M_ring_43 : decode zy_M_ring.2.1 43 = .ok (.iload_n 2, 1) := by decide +kernel
theorem d_M_ring_44 : decode zy_M_ring.2.1 44 = .ok (.iadd, 1) := by decide +kernel
theorem d_M_ring_45 : decode zy_M_ring.2.1 45 = .ok (.baload, 1) := by decide +kernel
theorem d_M_ring_46 : decode zy_M_ring.2.1 46 = .ok (.ifCond .eq (7), 3) := by decide +kernel
theorem d_M_ring_49 : decode zy_M_ring.2.1 49 = .ok (.iconst 0, 1) := by decide +kernel
theorem d_M_ring_50 : decode zy_M_ring.2.1 50 = .ok (.goto (6), 3) := by decide +kernel
theorem d_M_ring_53 : decode zy_M_ring.2.1 53 = .ok (.iconst 1, 1) := by decide +kernel
theorem d_M_ring_54 : decode zy_M_ring.2.1 54 = .ok (.iload_n 2, 1) := by decide +kernel
theorem d_M_ring_55 : decode zy_M_ring.2.1 55 = .ok (.ishl, 1) := by decide +kernel
theorem d_M_ring_56 : decode zy_M_ring.2.1 56 = .ok (.ior, 1) := by decide +kernel
theorem d_M_ring_57 : decode zy_M_ring.2.1 57 = .ok (.iastore, 1) := by decide +kernel
theorem d_M_ring_58 : decode zy_M_ring.2.1 58 = .ok (.iinc 1 1, 3) := by decide +kernel
theorem d_M_ring_61 : decode zy_M_ring.2.1 61 = .ok (.goto (-55), 3) := by decide +kernel
theorem d_M_ring_64 : decode zy_M_ring.2.1 64 = .ok (.iconst (-1), 1) := by decide +kernel
theorem d_M_ring_65 : decode zy_M_ring.2.1 65 = .ok (.istore_n 1, 1) := by decide +kernel
theorem d_M_ring_66 : decode zy_M_ring.2.1 66 = .ok (.iconst 0, 1) := by decide +kernel
theorem d_M_ring_67 : decode zy_M_ring.2.1 67 = .ok (.istore_n 2, 1) := by decide +kernel
theorem d_M_ring_68 : decode zy_M_ring.2.1 68 = .ok (.iload_n 2, 1) := by decide +kernel
theorem d_M_ring_69 : decode zy_M_ring.2.1 69 = .ok (.aload_n 0, 1) := by decide +kernel
theorem d_M_ring_70 : decode zy_M_ring.2.1 70 = .ok (.getfield 113, 3) := by decide +kernel
theorem d_M_ring_73 : decode zy_M_ring.2.1 73 = .ok (.if_icmp .gt (21), 3) := by decide +kernel
theorem d_M_ring_76 : decode zy_M_ring.2.1 76 = .ok (.aload_n 0, 1) := by decide +kernel
theorem d_M_ring_77 : decode zy_M_ring.2.1 77 = .ok (.iload_n 2, 1) := by decide +kernel
theorem d_M_ring_78 : decode zy_M_ring.2.1 78 = .ok (.invokevirtual 296, 3) := by decide +kernel
theorem d_M_ring_81 : decode zy_M_ring.2.1 81 = .ok (.ifCond .lt (5), 3) := by decide +kernel
theorem d_M_ring_84 : decode zy_M_ring.2.1 84 = .ok (.iload_n 1, 1) := by decide +kernel
theorem d_M_ring_85 : decode zy_M_ring.2.1 85 = .ok (.ireturn, 1) := by decide +kernel
theorem d_M_ring_86 : decode zy_M_ring.2.1 86 = .ok (.iload_n 2, 1) := by decide +kernel
theorem d_M_ring_87 : decode zy_M_ring.2.1 87 = .ok (.istore_n 1, 1) := by decide +kernel
theorem d_M_ring_88 : decode zy_M_ring.2.1 88 = .ok (.iinc 2 1, 3) := by decide +kernel
theorem d_M_ring_91 : decode zy_M_ring.2.1 91 = .ok (.goto (-23), 3) := by decide +kernel
theorem d_M_ring_94 : decode zy_M_ring.2.1 94 = .ok (.iload_n 1, 1) := by decide +kernel
theorem d_M_ring_95 : decode zy_M_ring.2.1 95 = .ok (.ireturn, 1) := by decide +kernel
theorem d_M_tries_0 : decode zy_M_tries.2.1 0 = .ok (.aload_n 0, 1) := by decide +kernel
theorem d_M_tries_1 : decode zy_M_tries.2.1 1 = .ok (.iload_n 2, 1) := by decide +kernel
theorem d_M_tries_2 : decode zy_M_tries.2.1 2 = .ok (.bipush 10, 2) := by decide +kernel
theorem d_M_tries_4 : decode zy_M_tries.2.1 4 = .ok (.idiv, 1) := by decide +kernel
theorem d_M_tries_5 : decode zy_M_tries.2.1 5 = .ok (.iload_n 2, 1) := by decide +kernel
theorem d_M_tries_6 : decode zy_M_tries.2.1 6 = .ok (.bipush 10, 2) := by decide +kernel
theorem d_M_tries_8 : decode zy_M_tries.2.1 8 = .ok (.irem, 1) := by decide +kernel
theorem d_M_tries_9 : decode zy_M_tries.2.1 9 = .ok (.invokevirtual 156, 3) := by decide +kernel
theorem d_M_tries_12 : decode zy_M_tries.2.1 12 = .ok (.iload_n 3, 1) := by decide +kernel
theorem d_M_tries_13 : decode zy_M_tries.2.1 13 = .ok (.ifCond .ge (7), 3) := by decide +kernel
theorem d_M_tries_16 : decode zy_M_tries.2.1 16 = .ok (.iconst 0, 1) := by decide +kernel
theorem d_M_tries_17 : decode zy_M_tries.2.1 17 = .ok (.goto (15), 3) := by decide +kernel
theorem d_M_tries_20 : decode zy_M_tries.2.1 20 = .ok (.aload_n 0, 1) := by decide +kernel
theorem d_M_tries_21 : decode zy_M_tries.2.1 21 = .ok (.iload_n 3, 1) := by decide +kernel
theorem d_M_tries_22 : decode zy_M_tries.2.1 22 = .ok (.bipush 10, 2) := by decide +kernel
theorem d_M_tries_24 : decode zy_M_tries.2.1 24 = .ok (.idiv, 1) := by decide +kernel
theorem d_M_tries_25 : decode zy_M_tries.2.1 25 = .ok (.iload_n 3, 1) := by decide +kernel
theorem d_M_tries_26 : decode zy_M_tries.2.1 26 = .ok (.bipush 10, 2) := by decide +kernel
theorem d_M_tries_28 : decode zy_M_tries.2.1 28 = .ok (.irem, 1) := by decide +kernel
theorem d_M_tries_29 : decode zy_M_tries.2.1 29 = .ok (.invokevirtual 156, 3) := by decide +kernel
theorem d_M_tries_32 : decode zy_M_tries.2.1 32 = .ok (.iadd, 1) := by decide +kernel
theorem d_M_tries_33 : decode zy_M_tries.2.1 33 = .ok (.istore 4, 2) := by decide +kernel
theorem d_M_tries_35 : decode zy_M_tries.2.1 35 = .ok (.aload_n 0, 1) := by decide +kernel
theorem d_M_tries_36 : decode zy_M_tries.2.1 36 = .ok (.getfield 299, 3) := by decide +kernel
theorem d_M_tries_39 : decode zy_M_tries.2.1 39 = .ok (.ifCond .lt (13), 3) := by decide +kernel
theorem d_M_tries_42 : decode zy_M_tries.2.1 42 = .ok (.iload 4, 2) := by decide +kernel
theorem d_M_tries_44 : decode zy_M_tries.2.1 44 = .ok (.aload_n 0, 1) := by decide +kernel
theorem d_M_tries_45 : decode zy_M_tries.2.1 45 = .ok (.getfield 302, 3) := by decide +kernel
theorem d_M_tries_48 : decode zy_M_tries.2.1 48 = .ok (.if_icmp .lt (4), 3) := by decide +kernel
theorem d_M_tries_51 : decode zy_M_tries.2.1 51 = .ok (.return_, 1) := by decide +kernel
theorem d_M_tries_52 : decode zy_M_tries.2.1 52 = .ok (.aload_n 0, 1) := by decide +kernel
theorem d_M_tries_53 : decode zy_M_tries.2.1 53 = .ok (.iload_n 2, 1) := by decide +kernel
theorem d_M_tries_54 : decode zy_M_tries.2.1 54 = .ok (.iconst 1, 1) := by decide +kernel
theorem d_M_tries_55 : decode zy_M_tries.2.1 55 = .ok (.invokevirtual 312, 3) := by decide +kernel
theorem d_M_tries_58 : decode zy_M_tries.2.1 58 = .ok (.iload_n 3, 1) := by decide +kernel
theorem d_M_tries_59 : decode zy_M_tries.2.1 59 = .ok (.ifCond .lt (9), 3) := by decide +kernel
theorem d_M_tries_62 : decode zy_M_tries.2.1 62 = .ok (.aload_n 0, 1) := by decide +kernel
theorem d_M_tries_63 : decode zy_M_tries.2.1 63 = .ok (.iload_n 3, 1) := by decide +kernel
theorem d_M_tries_64 : decode zy_M_tries.2.1 64 = .ok (.iconst 1, 1) := by decide +kernel
theorem d_M_tries_65 : decode zy_M_tries.2.1 65 = .ok (.invokevirtual 312, 3) := by decide +kernel
theorem d_M_tries_68 : decode zy_M_tries.2.1 68 = .ok (.aload_n 0, 1) := by decide +kernel
theorem d_M_tries_69 : decode zy_M_tries.2.1 69 = .ok (.iload_n 1, 1) := by decide +kernel
theorem d_M_tries_70 : decode zy_M_tries.2.1 70 = .ok (.invokevirtual 296, 3) := by decide +kernel
theorem d_M_tries_73 : decode zy_M_tries.2.1 73 = .ok (.ifCond .ge (40), 3) := by decide +kernel
theorem d_M_tries_76 : decode zy_M_tries.2.1 76 = .ok (.aload_n 0, 1) := by decide +kernel
theorem d_M_tries_77 : decode zy_M_tries.2.1 77 = .ok (.iload_n 3, 1) := by decide +kernel
theorem d_M_tries_78 : decode zy_M_tries.2.1 78 = .ok (.ifCond .ge (7), 3) := by decide +kernel
theorem d_M_tries_81 : decode zy_M_tries.2.1 81 = .ok (.iconst 1, 1) := by decide +kernel
theorem d_M_tries_82 : decode zy_M_tries.2.1 82 = .ok (.goto (4), 3) := by decide +kernel
theorem d_M_tries_85 : decode zy_M_tries.2.1 85 = .ok (.iconst 2, 1) := by decide +kernel
theorem d_M_tries_86 : decode zy_M_tries.2.1 86 = .ok (.putfield 299, 3) := by decide +kernel
theorem d_M_tries_89 : decode zy_M_tries.2.1 89 = .ok (.aload_n 0, 1) := by decide +kernel
theorem d_M_tries_90 : decode zy_M_tries.2.1 90 = .ok (.iload 4, 2) := by decide +kernel
theorem d_M_tries_92 : decode zy_M_tries.2.1 92 = .ok (.putfield 302, 3) := by decide +kernel
theorem d_M_tries_95 : decode zy_M_tries.2.1 95 = .ok (.aload_n 0, 1) := by decide +kernel
theorem d_M_tries_96 : decode zy_M_tries.2.1 96 = .ok (.iload_n 3, 1) := by decide +kernel
theorem d_M_tries_97 : decode zy_M_tries.2.1 97 = .ok (.ifCond .ge (7), 3) := by decide +kernel
theorem d_M_tries_100 : decode zy_M_tries.2.1 100 = .ok (.iload_n 2, 1) := by decide +kernel
theorem d_M_tries_101 : decode zy_M_tries.2.1 101 = .ok (.goto (9), 3) := by decide +kernel
theorem d_M_tries_104 : decode zy_M_tries.2.1 104 = .ok (.bipush 100, 2) := by decide +kernel
theorem d_M_tries_106 : decode zy_M_tries.2.1 106 = .ok (.iload_n 2, 1) := by decide +kernel
theorem d_M_tries_107 : decode zy_M_tries.2.1 107 = .ok (.imul, 1) := by decide +kernel
theorem d_M_tries_108 : decode zy_M_tries.2.1 108 = .ok (.iload_n 3, 1) := by decide +kernel
theorem d_M_tries_109 : decode zy_M_tries.2.1 109 = .ok (.iadd, 1) := by decide +kernel
theorem d_M_tries_110 : decode zy_M_tries.2.1 110 = .ok (.putfield 305, 3) := by decide +kernel
theorem d_M_tries_113 : decode zy_M_tries.2.1 113 = .ok (.aload_n 0, 1) := by decide +kernel
theorem d_M_tries_114 : decode zy_M_tries.2.1 114 = .ok (.iload_n 2, 1) := by decide +kernel
theorem d_M_tries_115 : decode zy_M_tries.2.1 115 = .ok (.iconst 0, 1) := by decide +kernel
theorem d_M_tries_116 : decode zy_M_tries.2.1 116 = .ok (.invokevirtual 312, 3) := by decide +kernel
theorem d_M_tries_119 : decode zy_M_tries.2.1 119 = .ok (.iload_n 3, 1) := by decide +kernel
theorem d_M_tries_120 : decode zy_M_tries.2.1 120 = .ok (.ifCond .lt (9), 3) := by decide +kernel
theorem d_M_tries_123 : decode zy_M_tries.2.1 123 = .ok (.aload_n 0, 1) := by decide +kernel
theorem d_M_tries_124 : decode zy_M_tries.2.1 124 = .ok (.iload_n 3, 1) := by decide +kernel
theorem d_M_tries_125 : decode zy_M_tries.2.1 125 = .ok (.iconst 0, 1) := by decide +kernel
theorem d_M_tries_126 : decode zy_M_tries.2.1 126 = .ok (.invokevirtual 312, 3) := by decide +kernel
theorem d_M_tries_129 : decode zy_M_tries.2.1 129 = .ok (.return_, 1) := by decide +kernel
theorem d_M_worst_0 : decode zy_M_worst.2.1 0 = .ok (.iload_n 1, 1) := by decide +kernel
theorem d_M_worst_1 : decode zy_M_worst.2.1 1 = .ok (.i2l, 1) := by decide +kernel
theorem d_M_worst_2 : decode zy_M_worst.2.1 2 = .ok (.lconst 0, 1) := by decide +kernel
theorem d_M_worst_3 : decode zy_M_worst.2.1 3 = .ok (.ldc2_w 294, 3) := by decide +kernel
theorem d_M_worst_6 : decode zy_M_worst.2.1 6 = .ok (.invokestatic 109, 3) := by decide +kernel
theorem d_M_worst_9 : decode zy_M_worst.2.1 9 = .ok (.ifCond .eq (13), 3) := by decide +kernel
theorem d_M_worst_12 : decode zy_M_worst.2.1 12 = .ok (.iload_n 2, 1) := by decide +kernel
theorem d_M_worst_13 : decode zy_M_worst.2.1 13 = .ok (.i2l, 1) := by decide +kernel
theorem d_M_worst_14 : decode zy_M_worst.2.1 14 = .ok (.lconst 0, 1) := by decide +kernel
theorem d_M_worst_15 : decode zy_M_worst.2.1 15 = .ok (.lconst 1, 1) := by decide +kernel
theorem d_M_worst_16 : decode zy_M_worst.2.1 16 = .ok (.invokestatic 109, 3) := by decide +kernel
theorem d_M_worst_19 : decode zy_M_worst.2.1 19 = .ok (.ifCond .ne (6), 3) := by decide +kernel
theorem d_M_worst_22 : decode zy_M_worst.2.1 22 = .ok (.bipush (-2), 2) := by decide +kernel
theorem d_M_worst_24 : decode zy_M_worst.2.1 24 = .ok (.ireturn, 1) := by decide +kernel
theorem d_M_worst_25 : decode zy_M_worst.2.1 25 = .ok (.aload_n 0, 1) := by decide +kernel
theorem d_M_worst_26 : decode zy_M_worst.2.1 26 = .ok (.invokevirtual 279, 3) := by decide +kernel
theorem d_M_worst_29 : decode zy_M_worst.2.1 29 = .ok (.iload_n 2, 1) := by decide +kernel
theorem d_M_worst_30 : decode zy_M_worst.2.1 30 = .ok (.ifCond .ne (9), 3) := by decide +kernel
theorem d_M_worst_33 : decode zy_M_worst.2.1 33 = .ok (.aload_n 0, 1) := by decide +kernel
theorem d_M_worst_34 : decode zy_M_worst.2.1 34 = .ok (.iload_n 1, 1) := by decide +kernel
theorem d_M_worst_35 : decode zy_M_worst.2.1 35 = .ok (.invokevirtual 296, 3) := by decide +kernel
theorem d_M_worst_38 : decode zy_M_worst.2.1 38 = .ok (.ireturn, 1) := by decide +kernel
theorem d_M_worst_39 : decode zy_M_worst.2.1 39 = .ok (.aload_n 0, 1) := by decide +kernel
theorem d_M_worst_40 : decode zy_M_worst.2.1 40 = .ok (.invokevirtual 282, 3) := by decide +kernel
theorem d_M_worst_43 : decode zy_M_worst.2.1 43 = .ok (.iconst (-1), 1) := by decide +kernel
theorem d_M_worst_44 : decode zy_M_worst.2.1 44 = .ok (.istore_n 3, 1) := by decide +kernel
theorem d_M_worst_45 : decode zy_M_worst.2.1 45 = .ok (.iconst 0, 1) := by decide +kernel
theorem d_M_worst_46 : decode zy_M_worst.2.1 46 = .ok (.istore 4, 2) := by decide +kernel
theorem d_M_worst_48 : decode zy_M_worst.2.1 48 = .ok (.iconst 0, 1) := by decide +kernel
theorem d_M_worst_49 : decode zy_M_worst.2.1 49 = .ok (.istore 5, 2) := by decide +kernel
theorem d_M_worst_51 : decode zy_M_worst.2.1 51 = .ok (.iload 5, 2) := by decide +kernel
theorem d_M_worst_53 : decode zy_M_worst.2.1 53 = .ok (.iconst 1, 1) := by decide +kernel
theorem d_M_worst_54 : decode zy_M_worst.2.1 54 = .ok (.aload_n 0, 1) := by decide +kernel
theorem d_M_worst_55 : decode zy_M_worst.2.1 55 = .ok (.getfield 113, 3) := by decide +kernel
theorem d_M_worst_58 : decode zy_M_worst.2.1 58 = .ok (.ishl, 1) := by decide +kernel
theorem d_M_worst_59 : decode zy_M_worst.2.1 59 = .ok (.if_icmp .ge (49), 3) := by decide +kernel
theorem d_M_worst_62 : decode zy_M_worst.2.1 62 = .ok (.iload 5, 2) := by decide +kernel
theorem d_M_worst_64 : decode zy_M_worst.2.1 64 = .ok (.invokestatic 288, 3) := by decide +kernel
theorem d_M_worst_67 : decode zy_M_worst.2.1 67 = .ok (.iload_n 1, 1) := by decide +kernel
theorem d_M_worst_68 : decode zy_M_worst.2.1 68 = .ok (.if_icmp .ne (34), 3) := by decide +kernel
theorem d_M_worst_71 : decode zy_M_worst.2.1 71 = .ok (.aload_n 0, 1) := by decide +kernel
theorem d_M_worst_72 : decode zy_M_worst.2.1 72 = .ok (.iload 5, 2) := by decide +kernel
theorem d_M_worst_74 : decode zy_M_worst.2.1 74 = .ok (.invokevirtual 285, 3) := by decide +kernel
theorem d_M_worst_77 : decode zy_M_worst.2.1 77 = .ok (.ifCond .eq (25), 3) := by decide +kernel
theorem d_M_worst_80 : decode zy_M_worst.2.1 80 = .ok (.iload_n 3, 1) := by decide +kernel
theorem d_M_worst_81 : decode zy_M_worst.2.1 81 = .ok (.ifCond .lt (12), 3) := by decide +kernel
theorem d_M_worst_84 : decode zy_M_worst.2.1 84 = .ok (.aload_n 0, 1) := by decide +kernel
theorem d_M_worst_85 : decode zy_M_worst.2.1 85 = .ok (.getfield 269, 3) := by decide +kernel
theorem d_M_worst_88 : decode zy_M_worst.2.1 88 = .ok (.iload 4, 2) := by decide +kernel
theorem d_M_worst_90 : decode zy_M_worst.2.1 90 = .ok (.if_icmp .ge (12), 3) := by decide +kernel
theorem d_M_worst_93 : decode zy_M_worst.2.1 93 = .ok (.iload 5, 2) := by decide +kernel
theorem d_M_worst_95 : decode zy_M_worst.2.1 95 = .ok (.istore_n 3, 1) := by decide +kernel
theorem d_M_worst_96 : decode zy_M_worst.2.1 96 = .ok (.aload_n 0, 1) := by decide +kernel
theorem d_M_worst_97 : decode zy_M_worst.2.1 97 = .ok (.getfield 269, 3) := by decide +kernel
theorem d_M_worst_100 : decode zy_M_worst.2.1 100 = .ok (.istore 4, 2) := by decide +kernel
theorem d_M_worst_102 : decode zy_M_worst.2.1 102 = .ok (.iinc 5 1, 3) := by decide +kernel
theorem d_M_worst_105 : decode zy_M_worst.2.1 105 = .ok (.goto (-54), 3) := by decide +kernel
theorem d_M_worst_108 : decode zy_M_worst.2.1 108 = .ok (.iload_n 3, 1) := by decide +kernel
theorem d_M_worst_109 : decode zy_M_worst.2.1 109 = .ok (.ireturn, 1) := by decide +kernel
theorem d_M_tryLessons_0 : decode zy_M_tryLessons.2.1 0 = .ok (.iconst 0, 1) := by decide +kernel
theorem d_M_tryLessons_1 : decode zy_M_tryLessons.2.1 1 = .ok (.istore_n 3, 1) := by decide +kernel
theorem d_M_tryLessons_2 : decode zy_M_tryLessons.2.1 2 = .ok (.iload_n 3, 1) := by decide +kernel
theorem d_M_tryLessons_3 : decode zy_M_tryLessons.2.1 3 = .ok (.bipush 10, 2) := by decide +kernel
theorem d_M_tryLessons_5 : decode zy_M_tryLessons.2.1 5 = .ok (.aload_n 0, 1) := by decide +kernel
theorem d_M_tryLessons_6 : decode zy_M_tryLessons.2.1 6 = .ok (.getfield 113, 3) := by decide +kernel
theorem d_M_tryLessons_9 : decode zy_M_tryLessons.2.1 9 = .ok (.imul, 1) := by decide +kernel
theorem d_M_tryLessons_10 : decode zy_M_tryLessons.2.1 10 = .ok (.if_icmp .ge (75), 3) := by decide +kernel
theorem d_M_tryLessons_13 : decode zy_M_tryLessons.2.1 13 = .ok (.aload_n 0, 1) := by decide +kernel
theorem d_M_tryLessons_14 : decode zy_M_tryLessons.2.1 14 = .ok (.iload_n 3, 1) := by decide +kernel
theorem d_M_tryLessons_15 : decode zy_M_tryLessons.2.1 15 = .ok (.invokevirtual 316, 3) := by decide +kernel
theorem d_M_tryLessons_18 : decode zy_M_tryLessons.2.1 18 = .ok (.ifCond .ne (6), 3) := by decide +kernel
theorem d_M_tryLessons_21 : decode zy_M_tryLessons.2.1 21 = .ok (.goto (58), 3) := by decide +kernel
theorem d_M_tryLessons_24 : decode zy_M_tryLessons.2.1 24 = .ok (.iload_n 2, 1) := by decide +kernel
theorem d_M_tryLessons_25 : decode zy_M_tryLessons.2.1 25 = .ok (.iconst 1, 1) := by decide +kernel
theorem d_M_tryLessons_26 : decode zy_M_tryLessons.2.1 26 = .ok (.if_icmp .ne (13), 3) := by decide +kernel
theorem d_M_tryLessons_29 : decode zy_M_tryLessons.2.1 29 = .ok (.aload_n 0, 1) := by decide +kernel
theorem d_M_tryLessons_30 : decode zy_M_tryLessons.2.1 30 = .ok (.iload_n 1, 1) := by decide +kernel
theorem d_M_tryLessons_31 : decode zy_M_tryLessons.2.1 31 = .ok (.iload_n 3, 1) := by decide +kernel
theorem d_M_tryLessons_32 : decode zy_M_tryLessons.2.1 32 = .ok (.iconst (-1), 1) := by decide +kernel
theorem d_M_tryLessons_33 : decode zy_M_tryLessons.2.1 33 = .ok (.invokevirtual 319, 3) := by decide +kernel
theorem d_M_tryLessons_36 : decode zy_M_tryLessons.2.1 36 = .ok (.goto (43), 3) := by decide +kernel
theorem d_M_tryLessons_39 : decode zy_M_tryLessons.2.1 39 = .ok (.iload_n 3, 1) := by decide +kernel
theorem d_M_tryLessons_40 : decode zy_M_tryLessons.2.1 40 = .ok (.iconst 1, 1) := by decide +kernel
theorem d_M_tryLessons_41 : decode zy_M_tryLessons.2.1 41 = .ok (.iadd, 1) := by decide +kernel
theorem d_M_tryLessons_42 : decode zy_M_tryLessons.2.1 42 = .ok (.istore 4, 2) := by decide +kernel
theorem d_M_tryLessons_44 : decode zy_M_tryLessons.2.1 44 = .ok (.iload 4, 2) := by decide +kernel
theorem d_M_tryLessons_46 : decode zy_M_tryLessons.2.1 46 = .ok (.bipush 10, 2) := by decide +kernel
theorem d_M_tryLessons_48 : decode zy_M_tryLessons.2.1 48 = .ok (.aload_n 0, 1) := by decide +kernel
theorem d_M_tryLessons_49 : decode zy_M_tryLessons.2.1 49 = .ok (.getfield 113, 3) := by decide +kernel
theorem d_M_tryLessons_52 : decode zy_M_tryLessons.2.1 52 = .ok (.imul, 1) := by decide +kernel
theorem d_M_tryLessons_53 : decode zy_M_tryLessons.2.1 53 = .ok (.if_icmp .ge (26), 3) := by decide +kernel
theorem d_M_tryLessons_56 : decode zy_M_tryLessons.2.1 56 = .ok (.aload_n 0, 1) := by decide +kernel
theorem d_M_tryLessons_57 : decode zy_M_tryLessons.2.1 57 = .ok (.iload 4, 2) := by decide +kernel
theorem d_M_tryLessons_59 : decode zy_M_tryLessons.2.1 59 = .ok (.invokevirtual 316, 3) := by decide +kernel
theorem d_M_tryLessons_62 : decode zy_M_tryLessons.2.1 62 = .ok (.ifCond .eq (11), 3) := by decide +kernel
theorem d_M_tryLessons_65 : decode zy_M_tryLessons.2.1 65 = .ok (.aload_n 0, 1) := by decide +kernel
theorem d_M_tryLessons_66 : decode zy_M_tryLessons.2.1 66 = .ok (.iload_n 1, 1) := by decide +kernel
theorem d_M_tryLessons_67 : decode zy_M_tryLessons.2.1 67 = .ok (.iload_n 3, 1) := by decide +kernel
theorem d_M_tryLessons_68 : decode zy_M_tryLessons.2.1 68 = .ok (.iload 4, 2) := by decide +kernel
theorem d_M_tryLessons_70 : decode zy_M_tryLessons.2.1 70 = .ok (.invokevirtual 319, 3) := by decide +kernel
theorem d_M_tryLessons_73 : decode zy_M_tryLessons.2.1 73 = .ok (.iinc 4 1, 3) := by decide +kernel
theorem d_M_tryLessons_76 : decode zy_M_tryLessons.2.1 76 = .ok (.goto (-32), 3) := by decide +kernel
theorem d_M_tryLessons_79 : decode zy_M_tryLessons.2.1 79 = .ok (.iinc 3 1, 3) := by decide +kernel
theorem d_M_tryLessons_82 : decode zy_M_tryLessons.2.1 82 = .ok (.goto (-80), 3) := by decide +kernel
theorem d_M_tryLessons_85 : decode zy_M_tryLessons.2.1 85 = .ok (.return_, 1) := by decide +kernel
theorem d_M_findLessons_0 : decode zy_M_findLessons.2.1 0 = .ok (.aload_n 0, 1) := by decide +kernel
theorem d_M_findLessons_1 : decode zy_M_findLessons.2.1 1 = .ok (.invokevirtual 279, 3) := by decide +kernel
theorem d_M_findLessons_4 : decode zy_M_findLessons.2.1 4 = .ok (.aload_n 0, 1) := by decide +kernel
theorem d_M_findLessons_5 : decode zy_M_findLessons.2.1 5 = .ok (.iconst (-1), 1) := by decide +kernel
theorem d_M_findLessons_6 : decode zy_M_findLessons.2.1 6 = .ok (.putfield 299, 3) := by decide +kernel
theorem d_M_findLessons_9 : decode zy_M_findLessons.2.1 9 = .ok (.aload_n 0, 1) := by decide +kernel
theorem d_M_findLessons_10 : decode zy_M_findLessons.2.1 10 = .ok (.iload_n 1, 1) := by decide +kernel
theorem d_M_findLessons_11 : decode zy_M_findLessons.2.1 11 = .ok (.invokevirtual 296, 3) := by decide +kernel
theorem d_M_findLessons_14 : decode zy_M_findLessons.2.1 14 = .ok (.ifCond .ge (19), 3) := by decide +kernel
theorem d_M_findLessons_17 : decode zy_M_findLessons.2.1 17 = .ok (.aload_n 0, 1) := by decide +kernel
theorem d_M_findLessons_18 : decode zy_M_findLessons.2.1 18 = .ok (.iconst 0, 1) := by decide +kernel
theorem d_M_findLessons_19 : decode zy_M_findLessons.2.1 19 = .ok (.putfield 299, 3) := by decide +kernel
theorem d_M_findLessons_22 : decode zy_M_findLessons.2.1 22 = .ok (.aload_n 0, 1) := by decide +kernel
theorem d_M_findLessons_23 : decode zy_M_findLessons.2.1 23 = .ok (.iconst 0, 1) := by decide +kernel
theorem d_M_findLessons_24 : decode zy_M_findLessons.2.1 24 = .ok (.putfield 302, 3) := by decide +kernel
theorem d_M_findLessons_27 : decode zy_M_findLessons.2.1 27 = .ok (.aload_n 0, 1) := by decide +kernel
theorem d_M_findLessons_28 : decode zy_M_findLessons.2.1 28 = .ok (.iconst 0, 1) := by decide +kernel
theorem d_M_findLessons_29 : decode zy_M_findLessons.2.1 29 = .ok (.putfield 305, 3) := by decide +kernel
theorem d_M_findLessons_32 : decode zy_M_findLessons.2.1 32 = .ok (.return_, 1) := by decide +kernel
theorem d_M_findLessons_33 : decode zy_M_findLessons.2.1 33 = .ok (.aload_n 0, 1) := by decide +kernel
theorem d_M_findLessons_34 : decode zy_M_findLessons.2.1 34 = .ok (.iload_n 1, 1) := by decide +kernel
theorem d_M_findLessons_35 : decode zy_M_findLessons.2.1 35 = .ok (.iconst 1, 1) := by decide +kernel
theorem d_M_findLessons_36 : decode zy_M_findLessons.2.1 36 = .ok (.invokevirtual 308, 3) := by decide +kernel
theorem d_M_findLessons_39 : decode zy_M_findLessons.2.1 39 = .ok (.aload_n 0, 1) := by decide +kernel
theorem d_M_findLessons_40 : decode zy_M_findLessons.2.1 40 = .ok (.getfield 299, 3) := by decide +kernel
theorem d_M_findLessons_43 : decode zy_M_findLessons.2.1 43 = .ok (.ifCond .ge (9), 3) := by decide +kernel
theorem d_M_findLessons_46 : decode zy_M_findLessons.2.1 46 = .ok (.aload_n 0, 1) := by decide +kernel
theorem d_M_findLessons_47 : decode zy_M_findLessons.2.1 47 = .ok (.iload_n 1, 1) := by decide +kernel
theorem d_M_findLessons_48 : decode zy_M_findLessons.2.1 48 = .ok (.iconst 2, 1) := by decide +kernel
theorem d_M_findLessons_49 : decode zy_M_findLessons.2.1 49 = .ok (.invokevirtual 308, 3) := by decide +kernel
theorem d_M_findLessons_52 : decode zy_M_findLessons.2.1 52 = .ok (.return_, 1) := by decide +kernel
theorem d_M_lessons_0 : decode zy_M_lessons.2.1 0 = .ok (.iload_n 1, 1) := by decide +kernel
theorem d_M_lessons_1 : decode zy_M_lessons.2.1 1 = .ok (.i2l, 1) := by decide +kernel
theorem d_M_lessons_2 : decode zy_M_lessons.2.1 2 = .ok (.lconst 0, 1) := by decide +kernel
theorem d_M_lessons_3 : decode zy_M_lessons.2.1 3 = .ok (.ldc2_w 323, 3) := by decide +kernel
theorem d_M_lessons_6 : decode zy_M_lessons.2.1 6 = .ok (.invokestatic 109, 3) := by decide +kernel
theorem d_M_lessons_9 : decode zy_M_lessons.2.1 9 = .ok (.ifCond .eq (15), 3) := by decide +kernel
theorem d_M_lessons_12 : decode zy_M_lessons.2.1 12 = .ok (.iload_n 2, 1) := by decide +kernel
theorem d_M_lessons_13 : decode zy_M_lessons.2.1 13 = .ok (.i2l, 1) := by decide +kernel
theorem d_M_lessons_14 : decode zy_M_lessons.2.1 14 = .ok (.lconst 0, 1) := by decide +kernel
theorem d_M_lessons_15 : decode zy_M_lessons.2.1 15 = .ok (.ldc2_w 323, 3) := by decide +kernel
theorem d_M_lessons_18 : decode zy_M_lessons.2.1 18 = .ok (.invokestatic 109, 3) := by decide +kernel
theorem d_M_lessons_21 : decode zy_M_lessons.2.1 21 = .ok (.ifCond .ne (6), 3) := by decide +kernel
theorem d_M_lessons_24 : decode zy_M_lessons.2.1 24 = .ok (.bipush (-2), 2) := by decide +kernel
theorem d_M_lessons_26 : decode zy_M_lessons.2.1 26 = .ok (.ireturn, 1) := by decide +kernel
theorem d_M_lessons_27 : decode zy_M_lessons.2.1 27 = .ok (.aload_n 0, 1) := by decide +kernel
theorem d_M_lessons_28 : decode zy_M_lessons.2.1 28 = .ok (.iload_n 1, 1) := by decide +kernel
theorem d_M_lessons_29 : decode zy_M_lessons.2.1 29 = .ok (.invokevirtual 325, 3) := by decide +kernel
theorem d_M_lessons_32 : decode zy_M_lessons.2.1 32 = .ok (.aload_n 0, 1) := by decide +kernel
theorem d_M_lessons_33 : decode zy_M_lessons.2.1 33 = .ok (.getfield 299, 3) := by decide +kernel
theorem d_M_lessons_36 : decode zy_M_lessons.2.1 36 = .ok (.ifCond .ge (7), 3) := by decide +kernel
theorem d_M_lessons_39 : decode zy_M_lessons.2.1 39 = .ok (.iconst (-1), 1) := by decide +kernel
theorem d_M_lessons_40 : decode zy_M_lessons.2.1 40 = .ok (.goto (30), 3) := by decide +kernel
theorem d_M_lessons_43 : decode zy_M_lessons.2.1 43 = .ok (.iload_n 2, 1) := by decide +kernel
theorem d_M_lessons_44 : decode zy_M_lessons.2.1 44 = .ok (.ifCond .ne (10), 3) := by decide +kernel
theorem d_M_lessons_47 : decode zy_M_lessons.2.1 47 = .ok (.aload_n 0, 1) := by decide +kernel
theorem d_M_lessons_48 : decode zy_M_lessons.2.1 48 = .ok (.getfield 299, 3) := by decide +kernel
theorem d_M_lessons_51 : decode zy_M_lessons.2.1 51 = .ok (.goto (19), 3) := by decide +kernel
theorem d_M_lessons_54 : decode zy_M_lessons.2.1 54 = .ok (.iload_n 2, 1) := by decide +kernel
theorem d_M_lessons_55 : decode zy_M_lessons.2.1 55 = .ok (.iconst 1, 1) := by decide +kernel
theorem d_M_lessons_56 : decode zy_M_lessons.2.1 56 = .ok (.if_icmp .ne (10), 3) := by decide +kernel
theorem d_M_lessons_59 : decode zy_M_lessons.2.1 59 = .ok (.aload_n 0, 1) := by decide +kernel
theorem d_M_lessons_60 : decode zy_M_lessons.2.1 60 = .ok (.getfield 302, 3) := by decide +kernel
theorem d_M_lessons_63 : decode zy_M_lessons.2.1 63 = .ok (.goto (7), 3) := by decide +kernel
theorem d_M_lessons_66 : decode zy_M_lessons.2.1 66 = .ok (.aload_n 0, 1) := by decide +kernel
theorem d_M_lessons_67 : decode zy_M_lessons.2.1 67 = .ok (.getfield 305, 3) := by decide +kernel
theorem d_M_lessons_70 : decode zy_M_lessons.2.1 70 = .ok (.ireturn, 1) := by decide +kernel
theorem d_M_text_0 : decode zy_M_text.2.1 0 = .ok (.aload_n 0, 1) := by decide +kernel
theorem d_M_text_1 : decode zy_M_text.2.1 1 = .ok (.getfield 103, 3) := by decide +kernel
theorem d_M_text_4 : decode zy_M_text.2.1 4 = .ok (.bipush 6, 2) := by decide +kernel
theorem d_M_text_6 : decode zy_M_text.2.1 6 = .ok (.if_icmp .ne (6), 3) := by decide +kernel
theorem d_M_text_9 : decode zy_M_text.2.1 9 = .ok (.bipush (-4), 2) := by decide +kernel
theorem d_M_text_11 : decode zy_M_text.2.1 11 = .ok (.ireturn, 1) := by decide +kernel
theorem d_M_text_12 : decode zy_M_text.2.1 12 = .ok (.aload_n 0, 1) := by decide +kernel
theorem d_M_text_13 : decode zy_M_text.2.1 13 = .ok (.iconst 0, 1) := by decide +kernel
theorem d_M_text_14 : decode zy_M_text.2.1 14 = .ok (.putfield 169, 3) := by decide +kernel
theorem d_M_text_17 : decode zy_M_text.2.1 17 = .ok (.aload_n 0, 1) := by decide +kernel
theorem d_M_text_18 : decode zy_M_text.2.1 18 = .ok (.iconst 0, 1) := by decide +kernel
theorem d_M_text_19 : decode zy_M_text.2.1 19 = .ok (.putfield 212, 3) := by decide +kernel
theorem d_M_text_22 : decode zy_M_text.2.1 22 = .ok (.aload_n 0, 1) := by decide +kernel
theorem d_M_text_23 : decode zy_M_text.2.1 23 = .ok (.iconst 0, 1) := by decide +kernel
theorem d_M_text_24 : decode zy_M_text.2.1 24 = .ok (.putfield 202, 3) := by decide +kernel
theorem d_M_text_27 : decode zy_M_text.2.1 27 = .ok (.aload_n 0, 1) := by decide +kernel
theorem d_M_text_28 : decode zy_M_text.2.1 28 = .ok (.sipush 510, 3) := by decide +kernel
theorem d_M_text_31 : decode zy_M_text.2.1 31 = .ok (.aload_n 0, 1) := by decide +kernel
theorem d_M_text_32 : decode zy_M_text.2.1 32 = .ok (.getfield 103, 3) := by decide +kernel
theorem d_M_text_35 : decode zy_M_text.2.1 35 = .ok (.imul, 1) := by decide +kernel
theorem d_M_text_36 : decode zy_M_text.2.1 36 = .ok (.putfield 209, 3) := by decide +kernel
theorem d_M_text_39 : decode zy_M_text.2.1 39 = .ok (.aload_n 0, 1) := by decide +kernel
theorem d_M_text_40 : decode zy_M_text.2.1 40 = .ok (.invokevirtual 218, 3) := by decide +kernel
theorem d_M_text_43 : decode zy_M_text.2.1 43 = .ok (.iconst 0, 1) := by decide +kernel
theorem d_M_text_44 : decode zy_M_text.2.1 44 = .ok (.istore_n 1, 1) := by decide +kernel
theorem d_M_text_45 : decode zy_M_text.2.1 45 = .ok (.iload_n 1, 1) := by decide +kernel
theorem d_M_text_46 : decode zy_M_text.2.1 46 = .ok (.iconst 3, 1) := by decide +kernel
theorem d_M_text_47 : decode zy_M_text.2.1 47 = .ok (.if_icmp .ge (93), 3) := by decide +kernel
theorem d_M_text_50 : decode zy_M_text.2.1 50 = .ok (.aload_n 0, 1) := by decide +kernel
theorem d_M_text_51 : decode zy_M_text.2.1 51 = .ok (.getfield 202, 3) := by decide +kernel
theorem d_M_text_54 : decode zy_M_text.2.1 54 = .ok (.ifCond .ne (86), 3) := by decide +kernel
theorem d_M_text_57 : decode zy_M_text.2.1 57 = .ok (.aload_n 0, 1) := by decide +kernel
theorem d_M_text_58 : decode zy_M_text.2.1 58 = .ok (.iload_n 1, 1) := by decide +kernel
theorem d_M_text_59 : decode zy_M_text.2.1 59 = .ok (.invokevirtual 241, 3) := by decide +kernel
theorem d_M_text_62 : decode zy_M_text.2.1 62 = .ok (.ifCond .ne (10), 3) := by decide +kernel
theorem d_M_text_65 : decode zy_M_text.2.1 65 = .ok (.aload_n 0, 1) := by decide +kernel
theorem d_M_text_66 : decode zy_M_text.2.1 66 = .ok (.invokevirtual 215, 3) := by decide +kernel
theorem d_M_text_69 : decode zy_M_text.2.1 69 = .ok (.goto (71), 3) := by decide +kernel
theorem d_M_text_72 : decode zy_M_text.2.1 72 = .ok (.aload_n 0, 1) := by decide +kernel
theorem d_M_text_73 : decode zy_M_text.2.1 73 = .ok (.invokevirtual 218, 3) := by decide +kernel
theorem d_M_text_76 : decode zy_M_text.2.1 76 = .ok (.aload_n 0, 1) := by decide +kernel
theorem d_M_text_77 : decode zy_M_text.2.1 77 = .ok (.getfield 51, 3) := by decide +kernel
theorem d_M_text_80 : decode zy_M_text.2.1 80 = .ok (.iconst 3, 1) := by decide +kernel
theorem d_M_text_81 : decode zy_M_text.2.1 81 = .ok (.aload_n 0, 1) := by decide +kernel
theorem d_M_text_82 : decode zy_M_text.2.1 82 = .ok (.getfield 103, 3) := by decide +kernel
theorem d_M_text_85 : decode zy_M_text.2.1 85 = .ok (.imul, 1) := by decide +kernel
theorem d_M_text_86 : decode zy_M_text.2.1 86 = .ok (.iload_n 1, 1) := by decide +kernel
theorem d_M_text_87 : decode zy_M_text.2.1 87 = .ok (.iadd, 1) := by decide +kernel
theorem d_M_text_88 : decode zy_M_text.2.1 88 = .ok (.aload_n 0, 1) := by decide +kernel
theorem d_M_text_89 : decode zy_M_text.2.1 89 = .ok (.getfield 209, 3) := by decide +kernel
theorem d_M_text_92 : decode zy_M_text.2.1 92 = .ok (.iastore, 1) := by decide +kernel
theorem d_M_text_93 : decode zy_M_text.2.1 93 = .ok (.aload_n 0, 1) := by decide +kernel
theorem d_M_text_94 : decode zy_M_text.2.1 94 = .ok (.invokevirtual 235, 3) := by decide +kernel
theorem d_M_text_97 : decode zy_M_text.2.1 97 = .ok (.aload_n 0, 1) := by decide +kernel
theorem d_M_text_98 : decode zy_M_text.2.1 98 = .ok (.getfield 54, 3) := by decide +kernel
theorem d_M_text_101 : decode zy_M_text.2.1 101 = .ok (.iconst 3, 1) := by decide +kernel
theorem d_M_text_102 : decode zy_M_text.2.1 102 = .ok (.aload_n 0, 1) := by decide +kernel
theorem d_M_text_103 : decode zy_M_text.2.1 103 = .ok (.getfield 103, 3) := by decide +kernel
theorem d_M_text_106 : decode zy_M_text.2.1 106 = .ok (.imul, 1) := by decide +kernel
theorem d_M_text_107 : decode zy_M_text.2.1 107 = .ok (.iload_n 1, 1) := by decide +kernel
theorem d_M_text_108 : decode zy_M_text.2.1 108 = .ok (.iadd, 1) := by decide +kernel
theorem d_M_text_109 : decode zy_M_text.2.1 109 = .ok (.aload_n 0, 1) := by decide +kernel
theorem d_M_text_110 : decode zy_M_text.2.1 110 = .ok (.getfield 209, 3) := by decide +kernel
theorem d_M_text_113 : decode zy_M_text.2.1 113 = .ok (.iastore, 1) := by decide +kernel
theorem d_M_text_114 : decode zy_M_text.2.1 114 = .ok (.aload_n 0, 1) := by decide +kernel
theorem d_M_text_115 : decode zy_M_text.2.1 115 = .ok (.bipush 59, 2) := by decide +kernel
theorem d_M_text_117 : decode zy_M_text.2.1 117 = .ok (.invokevirtual 225, 3) := by decide +kernel
theorem d_M_text_120 : decode zy_M_text.2.1 120 = .ok (.ifCond .eq (10), 3) := by decide +kernel
theorem d_M_text_123 : decode zy_M_text.2.1 123 = .ok (.aload_n 0, 1) := by decide +kernel
theorem d_M_text_124 : decode zy_M_text.2.1 124 = .ok (.invokevirtual 218, 3) := by decide +kernel
theorem d_M_text_127 : decode zy_M_text.2.1 127 = .ok (.goto (7), 3) := by decide +kernel
theorem d_M_text_130 : decode zy_M_text.2.1 130 = .ok (.aload_n 0, 1) := by decide +kernel
theorem d_M_text_131 : decode zy_M_text.2.1 131 = .ok (.invokevirtual 215, 3) := by decide +kernel
theorem d_M_text_134 : decode zy_M_text.2.1 134 = .ok (.iinc 1 1, 3) := by decide +kernel
theorem d_M_text_137 : decode zy_M_text.2.1 137 = .ok (.goto (-92), 3) := by decide +kernel
theorem d_M_text_140 : decode zy_M_text.2.1 140 = .ok (.aload_n 0, 1) := by decide +kernel
theorem d_M_text_141 : decode zy_M_text.2.1 141 = .ok (.getfield 202, 3) := by decide +kernel
theorem d_M_text_144 : decode zy_M_text.2.1 144 = .ok (.ifCond .ne (14), 3) := by decide +kernel
theorem d_M_text_147 : decode zy_M_text.2.1 147 = .ok (.aload_n 0, 1) := by decide +kernel
theorem d_M_text_148 : decode zy_M_text.2.1 148 = .ok (.getfield 183, 3) := by decide +kernel
theorem d_M_text_151 : decode zy_M_text.2.1 151 = .ok (.ifCond .eq (7), 3) := by decide +kernel
theorem d_M_text_154 : decode zy_M_text.2.1 154 = .ok (.aload_n 0, 1) := by decide +kernel
theorem d_M_text_155 : decode zy_M_text.2.1 155 = .ok (.invokevirtual 215, 3) := by decide +kernel
theorem d_M_text_158 : decode zy_M_text.2.1 158 = .ok (.aload_n 0, 1) := by decide +kernel
theorem d_M_text_159 : decode zy_M_text.2.1 159 = .ok (.iconst 0, 1) := by decide +kernel
theorem d_M_text_160 : decode zy_M_text.2.1 160 = .ok (.putfield 161, 3) := by decide +kernel
theorem d_M_text_163 : decode zy_M_text.2.1 163 = .ok (.aload_n 0, 1) := by decide +kernel
theorem d_M_text_164 : decode zy_M_text.2.1 164 = .ok (.getfield 202, 3) := by decide +kernel
theorem d_M_text_167 : decode zy_M_text.2.1 167 = .ok (.ifCond .eq (11), 3) := by decide +kernel
theorem d_M_text_170 : decode zy_M_text.2.1 170 = .ok (.bipush (-100), 2) := by decide +kernel
theorem d_M_text_172 : decode zy_M_text.2.1 172 = .ok (.aload_n 0, 1) := by decide +kernel
theorem d_M_text_173 : decode zy_M_text.2.1 173 = .ok (.getfield 206, 3) := by decide +kernel
theorem d_M_text_176 : decode zy_M_text.2.1 176 = .ok (.isub, 1) := by decide +kernel
theorem d_M_text_177 : decode zy_M_text.2.1 177 = .ok (.ireturn, 1) := by decide +kernel
theorem d_M_text_178 : decode zy_M_text.2.1 178 = .ok (.aload_n 0, 1) := by decide +kernel
theorem d_M_text_179 : decode zy_M_text.2.1 179 = .ok (.dup, 1) := by decide +kernel
theorem d_M_text_180 : decode zy_M_text.2.1 180 = .ok (.getfield 103, 3) := by decide +kernel
theorem d_M_text_183 : decode zy_M_text.2.1 183 = .ok (.iconst 1, 1) := by decide +kernel
theorem d_M_text_184 : decode zy_M_text.2.1 184 = .ok (.iadd, 1) := by decide +kernel
theorem d_M_text_185 : decode zy_M_text.2.1 185 = .ok (.putfield 103, 3) := by decide +kernel
theorem d_M_text_188 : decode zy_M_text.2.1 188 = .ok (.aload_n 0, 1) := by decide +kernel
theorem d_M_text_189 : decode zy_M_text.2.1 189 = .ok (.getfield 103, 3) := by decide +kernel
theorem d_M_text_192 : decode zy_M_text.2.1 192 = .ok (.iconst 1, 1) := by decide +kernel
theorem d_M_text_193 : decode zy_M_text.2.1 193 = .ok (.isub, 1) := by decide +kernel
theorem d_M_text_194 : decode zy_M_text.2.1 194 = .ok (.ireturn, 1) := by decide +kernel
theorem d_Reader_read_0 : decode zy_Reader_read.2.1 0 = .ok (.aload_n 0, 1) := by decide +kernel
theorem d_Reader_read_1 : decode zy_Reader_read.2.1 1 = .ok (.aload_n 1, 1) := by decide +kernel
theorem d_Reader_read_2 : decode zy_Reader_read.2.1 2 = .ok (.putfield 34, 3) := by decide +kernel
theorem d_Reader_read_5 : decode zy_Reader_read.2.1 5 = .ok (.aload_n 0, 1) := by decide +kernel
theorem d_Reader_read_6 : decode zy_Reader_read.2.1 6 = .ok (.getfield 34, 3) := by decide +kernel
theorem d_Reader_read_9 : decode zy_Reader_read.2.1 9 = .ok (.invokevirtual 38, 3) := by decide +kernel
theorem d_Reader_read_12 : decode zy_Reader_read.2.1 12 = .ok (.aload_n 0, 1) := by decide +kernel
theorem d_Reader_read_13 : decode zy_Reader_read.2.1 13 = .ok (.iconst 0, 1) := by decide +kernel
theorem d_Reader_read_14 : decode zy_Reader_read.2.1 14 = .ok (.putfield 19, 3) := by decide +kernel
theorem d_Reader_read_17 : decode zy_Reader_read.2.1 17 = .ok (.aload_n 0, 1) := by decide +kernel
theorem d_Reader_read_18 : decode zy_Reader_read.2.1 18 = .ok (.iconst (-1), 1) := by decide +kernel
theorem d_Reader_read_19 : decode zy_Reader_read.2.1 19 = .ok (.putfield 31, 3) := by decide +kernel
theorem d_Reader_read_22 : decode zy_Reader_read.2.1 22 = .ok (.aload_n 0, 1) := by decide +kernel
theorem d_Reader_read_23 : decode zy_Reader_read.2.1 23 = .ok (.invokevirtual 43, 3) := by decide +kernel
theorem d_Reader_read_26 : decode zy_Reader_read.2.1 26 = .ok (.iconst 0, 1) := by decide +kernel
theorem d_Reader_read_27 : decode zy_Reader_read.2.1 27 = .ok (.istore_n 2, 1) := by decide +kernel
theorem d_Reader_read_28 : decode zy_Reader_read.2.1 28 = .ok (.iload_n 2, 1) := by decide +kernel
theorem d_Reader_read_29 : decode zy_Reader_read.2.1 29 = .ok (.iconst 3, 1) := by decide +kernel
theorem d_Reader_read_30 : decode zy_Reader_read.2.1 30 = .ok (.if_icmp .ge (36), 3) := by decide +kernel
theorem d_Reader_read_33 : decode zy_Reader_read.2.1 33 = .ok (.aload_n 0, 1) := by decide +kernel
theorem d_Reader_read_34 : decode zy_Reader_read.2.1 34 = .ok (.bipush 6, 2) := by decide +kernel
theorem d_Reader_read_36 : decode zy_Reader_read.2.1 36 = .ok (.iload_n 2, 1) := by decide +kernel
theorem d_Reader_read_37 : decode zy_Reader_read.2.1 37 = .ok (.iadd, 1) := by decide +kernel
theorem d_Reader_read_38 : decode zy_Reader_read.2.1 38 = .ok (.invokevirtual 46, 3) := by decide +kernel
theorem d_Reader_read_41 : decode zy_Reader_read.2.1 41 = .ok (.aload_n 0, 1) := by decide +kernel
theorem d_Reader_read_42 : decode zy_Reader_read.2.1 42 = .ok (.iconst 0, 1) := by decide +kernel
theorem d_Reader_read_43 : decode zy_Reader_read.2.1 43 = .ok (.invokevirtual 50, 3) := by decide +kernel
theorem d_Reader_read_46 : decode zy_Reader_read.2.1 46 = .ok (.aload_n 0, 1) := by decide +kernel
theorem d_Reader_read_47 : decode zy_Reader_read.2.1 47 = .ok (.getfield 34, 3) := by decide +kernel
theorem d_Reader_read_50 : decode zy_Reader_read.2.1 50 = .ok (.iload_n 2, 1) := by decide +kernel
theorem d_Reader_read_51 : decode zy_Reader_read.2.1 51 = .ok (.invokevirtual 53, 3) := by decide +kernel
theorem d_Reader_read_54 : decode zy_Reader_read.2.1 54 = .ok (.aload_n 0, 1) := by decide +kernel
theorem d_Reader_read_55 : decode zy_Reader_read.2.1 55 = .ok (.bipush 59, 2) := by decide +kernel
theorem d_Reader_read_57 : decode zy_Reader_read.2.1 57 = .ok (.invokevirtual 46, 3) := by decide +kernel
theorem d_Reader_read_60 : decode zy_Reader_read.2.1 60 = .ok (.iinc 2 1, 3) := by decide +kernel
theorem d_Reader_read_63 : decode zy_Reader_read.2.1 63 = .ok (.goto (-35), 3) := by decide +kernel
theorem d_Reader_read_66 : decode zy_Reader_read.2.1 66 = .ok (.aload_n 0, 1) := by decide +kernel
theorem d_Reader_read_67 : decode zy_Reader_read.2.1 67 = .ok (.getfield 22, 3) := by decide +kernel
theorem d_Reader_read_70 : decode zy_Reader_read.2.1 70 = .ok (.bipush 13, 2) := by decide +kernel
theorem d_Reader_read_72 : decode zy_Reader_read.2.1 72 = .ok (.if_icmp .eq (7), 3) := by decide +kernel
theorem d_Reader_read_75 : decode zy_Reader_read.2.1 75 = .ok (.aload_n 0, 1) := by decide +kernel
theorem d_Reader_read_76 : decode zy_Reader_read.2.1 76 = .ok (.invokevirtual 56, 3) := by decide +kernel
theorem d_Reader_read_79 : decode zy_Reader_read.2.1 79 = .ok (.aload_n 0, 1) := by decide +kernel
theorem d_Reader_read_80 : decode zy_Reader_read.2.1 80 = .ok (.iconst 0, 1) := by decide +kernel
theorem d_Reader_read_81 : decode zy_Reader_read.2.1 81 = .ok (.putfield 9, 3) := by decide +kernel
theorem d_Reader_read_84 : decode zy_Reader_read.2.1 84 = .ok (.aload_n 0, 1) := by decide +kernel
theorem d_Reader_read_85 : decode zy_Reader_read.2.1 85 = .ok (.getfield 31, 3) := by decide +kernel
theorem d_Reader_read_88 : decode zy_Reader_read.2.1 88 = .ok (.ireturn, 1) := by decide +kernel
theorem d_X_init_0 : decode zy_X_init.2.1 0 = .ok (.aload_n 0, 1) := by decide +kernel
theorem d_X_init_1 : decode zy_X_init.2.1 1 = .ok (.invokespecial 1, 3) := by decide +kernel
theorem d_X_init_4 : decode zy_X_init.2.1 4 = .ok (.aload_n 0, 1) := by decide +kernel
theorem d_X_init_5 : decode zy_X_init.2.1 5 = .ok (.new 7, 3) := by decide +kernel
theorem d_X_init_8 : decode zy_X_init.2.1 8 = .ok (.dup, 1) := by decide +kernel
theorem d_X_init_9 : decode zy_X_init.2.1 9 = .ok (.invokespecial 9, 3) := by decide +kernel
theorem d_X_init_12 : decode zy_X_init.2.1 12 = .ok (.putfield 10, 3) := by decide +kernel
theorem d_X_init_15 : decode zy_X_init.2.1 15 = .ok (.aload_n 0, 1) := by decide +kernel
theorem d_X_init_16 : decode zy_X_init.2.1 16 = .ok (.bipush 7, 2) := by decide +kernel
theorem d_X_init_18 : decode zy_X_init.2.1 18 = .ok (.anewarray 16, 3) := by decide +kernel
theorem d_X_init_21 : decode zy_X_init.2.1 21 = .ok (.putfield 18, 3) := by decide +kernel
theorem d_X_init_24 : decode zy_X_init.2.1 24 = .ok (.aload_n 0, 1) := by decide +kernel
theorem d_X_init_25 : decode zy_X_init.2.1 25 = .ok (.iconst 0, 1) := by decide +kernel
theorem d_X_init_26 : decode zy_X_init.2.1 26 = .ok (.putfield 22, 3) := by decide +kernel
theorem d_X_init_29 : decode zy_X_init.2.1 29 = .ok (.aload_n 0, 1) := by decide +kernel
theorem d_X_init_30 : decode zy_X_init.2.1 30 = .ok (.bipush 6, 2) := by decide +kernel
theorem d_X_init_32 : decode zy_X_init.2.1 32 = .ok (.anewarray 26, 3) := by decide +kernel
theorem d_X_init_35 : decode zy_X_init.2.1 35 = .ok (.putfield 28, 3) := by decide +kernel
theorem d_X_init_38 : decode zy_X_init.2.1 38 = .ok (.aload_n 0, 1) := by decide +kernel
theorem d_X_init_39 : decode zy_X_init.2.1 39 = .ok (.iconst 0, 1) := by decide +kernel
theorem d_X_init_40 : decode zy_X_init.2.1 40 = .ok (.putfield 32, 3) := by decide +kernel
theorem d_X_init_43 : decode zy_X_init.2.1 43 = .ok (.aload_n 0, 1) := by decide +kernel
theorem d_X_init_44 : decode zy_X_init.2.1 44 = .ok (.iconst 0, 1) := by decide +kernel
theorem d_X_init_45 : decode zy_X_init.2.1 45 = .ok (.putfield 35, 3) := by decide +kernel
theorem d_X_init_48 : decode zy_X_init.2.1 48 = .ok (.aload_n 0, 1) := by decide +kernel
theorem d_X_init_49 : decode zy_X_init.2.1 49 = .ok (.bipush 6, 2) := by decide +kernel
theorem d_X_init_51 : decode zy_X_init.2.1 51 = .ok (.newarray .int, 2) := by decide +kernel
theorem d_X_init_53 : decode zy_X_init.2.1 53 = .ok (.putfield 38, 3) := by decide +kernel
theorem d_X_init_56 : decode zy_X_init.2.1 56 = .ok (.aload_n 0, 1) := by decide +kernel
theorem d_X_init_57 : decode zy_X_init.2.1 57 = .ok (.new 42, 3) := by decide +kernel
theorem d_X_init_60 : decode zy_X_init.2.1 60 = .ok (.dup, 1) := by decide +kernel
theorem d_X_init_61 : decode zy_X_init.2.1 61 = .ok (.invokespecial 44, 3) := by decide +kernel
theorem d_X_init_64 : decode zy_X_init.2.1 64 = .ok (.putfield 45, 3) := by decide +kernel
theorem d_X_init_67 : decode zy_X_init.2.1 67 = .ok (.aload_n 0, 1) := by decide +kernel
theorem d_X_init_68 : decode zy_X_init.2.1 68 = .ok (.new 49, 3) := by decide +kernel
theorem d_X_init_71 : decode zy_X_init.2.1 71 = .ok (.dup, 1) := by decide +kernel
theorem d_X_init_72 : decode zy_X_init.2.1 72 = .ok (.invokespecial 51, 3) := by decide +kernel
theorem d_X_init_75 : decode zy_X_init.2.1 75 = .ok (.putfield 52, 3) := by decide +kernel
theorem d_X_init_78 : decode zy_X_init.2.1 78 = .ok (.aload_n 0, 1) := by decide +kernel
theorem d_X_init_79 : decode zy_X_init.2.1 79 = .ok (.new 56, 3) := by decide +kernel
theorem d_X_init_82 : decode zy_X_init.2.1 82 = .ok (.dup, 1) := by decide +kernel
theorem d_X_init_83 : decode zy_X_init.2.1 83 = .ok (.invokespecial 58, 3) := by decide +kernel
theorem d_X_init_86 : decode zy_X_init.2.1 86 = .ok (.putfield 59, 3) := by decide +kernel
theorem d_X_init_89 : decode zy_X_init.2.1 89 = .ok (.aload_n 0, 1) := by decide +kernel
theorem d_X_init_90 : decode zy_X_init.2.1 90 = .ok (.iconst 4, 1) := by decide +kernel
theorem d_X_init_91 : decode zy_X_init.2.1 91 = .ok (.anewarray 63, 3) := by decide +kernel
theorem d_X_init_94 : decode zy_X_init.2.1 94 = .ok (.putfield 65, 3) := by decide +kernel
theorem d_X_init_97 : decode zy_X_init.2.1 97 = .ok (.aload_n 0, 1) := by decide +kernel
theorem d_X_init_98 : decode zy_X_init.2.1 98 = .ok (.iconst 0, 1) := by decide +kernel
theorem d_X_init_99 : decode zy_X_init.2.1 99 = .ok (.putfield 69, 3) := by decide +kernel
theorem d_X_init_102 : decode zy_X_init.2.1 102 = .ok (.aload_n 0, 1) := by decide +kernel
theorem d_X_init_103 : decode zy_X_init.2.1 103 = .ok (.iconst 0, 1) := by decide +kernel
theorem d_X_init_104 : decode zy_X_init.2.1 104 = .ok (.putfield 73, 3) := by decide +kernel
theorem d_X_init_107 : decode zy_X_init.2.1 107 = .ok (.aload_n 0, 1) := by decide +kernel
theorem d_X_init_108 : decode zy_X_init.2.1 108 = .ok (.iconst 0, 1) := by decide +kernel
theorem d_X_init_109 : decode zy_X_init.2.1 109 = .ok (.putfield 76, 3) := by decide +kernel
theorem d_X_init_112 : decode zy_X_init.2.1 112 = .ok (.aload_n 0, 1) := by decide +kernel
theorem d_X_init_113 : decode zy_X_init.2.1 113 = .ok (.iconst 0, 1) := by decide +kernel
theorem d_X_init_114 : decode zy_X_init.2.1 114 = .ok (.putfield 79, 3) := by decide +kernel
theorem d_X_init_117 : decode zy_X_init.2.1 117 = .ok (.iconst 0, 1) := by decide +kernel
theorem d_X_init_118 : decode zy_X_init.2.1 118 = .ok (.istore_n 1, 1) := by decide +kernel
theorem d_X_init_119 : decode zy_X_init.2.1 119 = .ok (.iload_n 1, 1) := by decide +kernel
theorem d_X_init_120 : decode zy_X_init.2.1 120 = .ok (.bipush 7, 2) := by decide +kernel
theorem d_X_init_122 : decode zy_X_init.2.1 122 = .ok (.if_icmp .ge (22), 3) := by decide +kernel
theorem d_X_init_125 : decode zy_X_init.2.1 125 = .ok (.aload_n 0, 1) := by decide +kernel
theorem d_X_init_126 : decode zy_X_init.2.1 126 = .ok (.getfield 18, 3) := by decide +kernel
theorem d_X_init_129 : decode zy_X_init.2.1 129 = .ok (.iload_n 1, 1) := by decide +kernel
theorem d_X_init_130 : decode zy_X_init.2.1 130 = .ok (.new 16, 3) := by decide +kernel
theorem d_X_init_133 : decode zy_X_init.2.1 133 = .ok (.dup, 1) := by decide +kernel
theorem d_X_init_134 : decode zy_X_init.2.1 134 = .ok (.invokespecial 82, 3) := by decide +kernel
theorem d_X_init_137 : decode zy_X_init.2.1 137 = .ok (.aastore, 1) := by decide +kernel
theorem d_X_init_138 : decode zy_X_init.2.1 138 = .ok (.iinc 1 1, 3) := by decide +kernel
theorem d_X_init_141 : decode zy_X_init.2.1 141 = .ok (.goto (-22), 3) := by decide +kernel
theorem d_X_init_144 : decode zy_X_init.2.1 144 = .ok (.iconst 0, 1) := by decide +kernel
theorem d_X_init_145 : decode zy_X_init.2.1 145 = .ok (.istore_n 1, 1) := by decide +kernel
theorem d_X_init_146 : decode zy_X_init.2.1 146 = .ok (.iload_n 1, 1) := by decide +kernel
theorem d_X_init_147 : decode zy_X_init.2.1 147 = .ok (.bipush 6, 2) := by decide +kernel
theorem d_X_init_149 : decode zy_X_init.2.1 149 = .ok (.if_icmp .ge (22), 3) := by decide +kernel
theorem d_X_init_152 : decode zy_X_init.2.1 152 = .ok (.aload_n 0, 1) := by decide +kernel
theorem d_X_init_153 : decode zy_X_init.2.1 153 = .ok (.getfield 28, 3) := by decide +kernel
theorem d_X_init_156 : decode zy_X_init.2.1 156 = .ok (.iload_n 1, 1) := by decide +kernel
theorem d_X_init_157 : decode zy_X_init.2.1 157 = .ok (.new 26, 3) := by decide +kernel
theorem d_X_init_160 : decode zy_X_init.2.1 160 = .ok (.dup, 1) := by decide +kernel
theorem d_X_init_161 : decode zy_X_init.2.1 161 = .ok (.invokespecial 83, 3) := by decide +kernel
theorem d_X_init_164 : decode zy_X_init.2.1 164 = .ok (.aastore, 1) := by decide +kernel
theorem d_X_init_165 : decode zy_X_init.2.1 165 = .ok (.iinc 1 1, 3) := by decide +kernel
theorem d_X_init_168 : decode zy_X_init.2.1 168 = .ok (.goto (-22), 3) := by decide +kernel
theorem d_X_init_171 : decode zy_X_init.2.1 171 = .ok (.iconst 0, 1) := by decide +kernel
theorem d_X_init_172 : decode zy_X_init.2.1 172 = .ok (.istore_n 1, 1) := by decide +kernel
theorem d_X_init_173 : decode zy_X_init.2.1 173 = .ok (.iload_n 1, 1) := by decide +kernel
theorem d_X_init_174 : decode zy_X_init.2.1 174 = .ok (.iconst 4, 1) := by decide +kernel
theorem d_X_init_175 : decode zy_X_init.2.1 175 = .ok (.if_icmp .ge (22), 3) := by decide +kernel
