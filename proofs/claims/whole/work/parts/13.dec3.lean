theorem d_Plan_most_0 : decode zy_Plan_most.2.1 0 = .ok (.aload_n 0, 1) := by decide +kernel
theorem d_Plan_most_1 : decode zy_Plan_most.2.1 1 = .ok (.iload_n 1, 1) := by decide +kernel
theorem d_Plan_most_2 : decode zy_Plan_most.2.1 2 = .ok (.iload_n 2, 1) := by decide +kernel
theorem d_Plan_most_3 : decode zy_Plan_most.2.1 3 = .ok (.iconst (-1), 1) := by decide +kernel
theorem d_Plan_most_4 : decode zy_Plan_most.2.1 4 = .ok (.invokevirtual 38, 3) := by decide +kernel
theorem d_Plan_most_7 : decode zy_Plan_most.2.1 7 = .ok (.istore_n 3, 1) := by decide +kernel
theorem d_Plan_most_8 : decode zy_Plan_most.2.1 8 = .ok (.iconst 0, 1) := by decide +kernel
theorem d_Plan_most_9 : decode zy_Plan_most.2.1 9 = .ok (.istore 4, 2) := by decide +kernel
theorem d_Plan_most_11 : decode zy_Plan_most.2.1 11 = .ok (.iload 4, 2) := by decide +kernel
theorem d_Plan_most_13 : decode zy_Plan_most.2.1 13 = .ok (.bipush 7, 2) := by decide +kernel
theorem d_Plan_most_15 : decode zy_Plan_most.2.1 15 = .ok (.if_icmp .ge (32), 3) := by decide +kernel
theorem d_Plan_most_18 : decode zy_Plan_most.2.1 18 = .ok (.iload_n 2, 1) := by decide +kernel
theorem d_Plan_most_19 : decode zy_Plan_most.2.1 19 = .ok (.iload 4, 2) := by decide +kernel
theorem d_Plan_most_21 : decode zy_Plan_most.2.1 21 = .ok (.ishr, 1) := by decide +kernel
theorem d_Plan_most_22 : decode zy_Plan_most.2.1 22 = .ok (.iconst 1, 1) := by decide +kernel
theorem d_Plan_most_23 : decode zy_Plan_most.2.1 23 = .ok (.iand, 1) := by decide +kernel
theorem d_Plan_most_24 : decode zy_Plan_most.2.1 24 = .ok (.iconst 1, 1) := by decide +kernel
theorem d_Plan_most_25 : decode zy_Plan_most.2.1 25 = .ok (.if_icmp .ne (16), 3) := by decide +kernel
theorem d_Plan_most_28 : decode zy_Plan_most.2.1 28 = .ok (.iload_n 3, 1) := by decide +kernel
theorem d_Plan_most_29 : decode zy_Plan_most.2.1 29 = .ok (.aload_n 0, 1) := by decide +kernel
theorem d_Plan_most_30 : decode zy_Plan_most.2.1 30 = .ok (.iload_n 1, 1) := by decide +kernel
theorem d_Plan_most_31 : decode zy_Plan_most.2.1 31 = .ok (.iload_n 2, 1) := by decide +kernel
theorem d_Plan_most_32 : decode zy_Plan_most.2.1 32 = .ok (.iload 4, 2) := by decide +kernel
theorem d_Plan_most_34 : decode zy_Plan_most.2.1 34 = .ok (.invokevirtual 38, 3) := by decide +kernel
theorem d_Plan_most_37 : decode zy_Plan_most.2.1 37 = .ok (.invokestatic 42, 3) := by decide +kernel
theorem d_Plan_most_40 : decode zy_Plan_most.2.1 40 = .ok (.istore_n 3, 1) := by decide +kernel
theorem d_Plan_most_41 : decode zy_Plan_most.2.1 41 = .ok (.iinc 4 1, 3) := by decide +kernel
theorem d_Plan_most_44 : decode zy_Plan_most.2.1 44 = .ok (.goto (-33), 3) := by decide +kernel
theorem d_Plan_most_47 : decode zy_Plan_most.2.1 47 = .ok (.iload_n 3, 1) := by decide +kernel
theorem d_Plan_most_48 : decode zy_Plan_most.2.1 48 = .ok (.ireturn, 1) := by decide +kernel
theorem d_Reader_takeNumber_0 : decode zy_Reader_takeNumber.2.1 0 = .ok (.aload_n 0, 1) := by decide +kernel
theorem d_Reader_takeNumber_1 : decode zy_Reader_takeNumber.2.1 1 = .ok (.iconst 0, 1) := by decide +kernel
theorem d_Reader_takeNumber_2 : decode zy_Reader_takeNumber.2.1 2 = .ok (.putfield 28, 3) := by decide +kernel
theorem d_Reader_takeNumber_5 : decode zy_Reader_takeNumber.2.1 5 = .ok (.aload_n 0, 1) := by decide +kernel
theorem d_Reader_takeNumber_6 : decode zy_Reader_takeNumber.2.1 6 = .ok (.getfield 19, 3) := by decide +kernel
theorem d_Reader_takeNumber_9 : decode zy_Reader_takeNumber.2.1 9 = .ok (.aload_n 0, 1) := by decide +kernel
theorem d_Reader_takeNumber_10 : decode zy_Reader_takeNumber.2.1 10 = .ok (.getfield 9, 3) := by decide +kernel
theorem d_Reader_takeNumber_13 : decode zy_Reader_takeNumber.2.1 13 = .ok (.if_icmp .ge (68), 3) := by decide +kernel
theorem d_Reader_takeNumber_16 : decode zy_Reader_takeNumber.2.1 16 = .ok (.aload_n 0, 1) := by decide +kernel
theorem d_Reader_takeNumber_17 : decode zy_Reader_takeNumber.2.1 17 = .ok (.getfield 15, 3) := by decide +kernel
theorem d_Reader_takeNumber_20 : decode zy_Reader_takeNumber.2.1 20 = .ok (.aload_n 0, 1) := by decide +kernel
theorem d_Reader_takeNumber_21 : decode zy_Reader_takeNumber.2.1 21 = .ok (.getfield 19, 3) := by decide +kernel
theorem d_Reader_takeNumber_24 : decode zy_Reader_takeNumber.2.1 24 = .ok (.iaload, 1) := by decide +kernel
theorem d_Reader_takeNumber_25 : decode zy_Reader_takeNumber.2.1 25 = .ok (.invokestatic 87, 3) := by decide +kernel
theorem d_Reader_takeNumber_28 : decode zy_Reader_takeNumber.2.1 28 = .ok (.ifCond .eq (53), 3) := by decide +kernel
theorem d_Reader_takeNumber_31 : decode zy_Reader_takeNumber.2.1 31 = .ok (.aload_n 0, 1) := by decide +kernel
theorem d_Reader_takeNumber_32 : decode zy_Reader_takeNumber.2.1 32 = .ok (.getfield 19, 3) := by decide +kernel
theorem d_Reader_takeNumber_35 : decode zy_Reader_takeNumber.2.1 35 = .ok (.aload_n 0, 1) := by decide +kernel
theorem d_Reader_takeNumber_36 : decode zy_Reader_takeNumber.2.1 36 = .ok (.getfield 25, 3) := by decide +kernel
theorem d_Reader_takeNumber_39 : decode zy_Reader_takeNumber.2.1 39 = .ok (.isub, 1) := by decide +kernel
theorem d_Reader_takeNumber_40 : decode zy_Reader_takeNumber.2.1 40 = .ok (.iconst 4, 1) := by decide +kernel
theorem d_Reader_takeNumber_41 : decode zy_Reader_takeNumber.2.1 41 = .ok (.if_icmp .ge (27), 3) := by decide +kernel
theorem d_Reader_takeNumber_44 : decode zy_Reader_takeNumber.2.1 44 = .ok (.aload_n 0, 1) := by decide +kernel
theorem d_Reader_takeNumber_45 : decode zy_Reader_takeNumber.2.1 45 = .ok (.aload_n 0, 1) := by decide +kernel
theorem d_Reader_takeNumber_46 : decode zy_Reader_takeNumber.2.1 46 = .ok (.getfield 28, 3) := by decide +kernel
theorem d_Reader_takeNumber_49 : decode zy_Reader_takeNumber.2.1 49 = .ok (.bipush 10, 2) := by decide +kernel
theorem d_Reader_takeNumber_51 : decode zy_Reader_takeNumber.2.1 51 = .ok (.imul, 1) := by decide +kernel
theorem d_Reader_takeNumber_52 : decode zy_Reader_takeNumber.2.1 52 = .ok (.aload_n 0, 1) := by decide +kernel
theorem d_Reader_takeNumber_53 : decode zy_Reader_takeNumber.2.1 53 = .ok (.getfield 15, 3) := by decide +kernel
theorem d_Reader_takeNumber_56 : decode zy_Reader_takeNumber.2.1 56 = .ok (.aload_n 0, 1) := by decide +kernel
theorem d_Reader_takeNumber_57 : decode zy_Reader_takeNumber.2.1 57 = .ok (.getfield 19, 3) := by decide +kernel
theorem d_Reader_takeNumber_60 : decode zy_Reader_takeNumber.2.1 60 = .ok (.iaload, 1) := by decide +kernel
theorem d_Reader_takeNumber_61 : decode zy_Reader_takeNumber.2.1 61 = .ok (.bipush 48, 2) := by decide +kernel
theorem d_Reader_takeNumber_63 : decode zy_Reader_takeNumber.2.1 63 = .ok (.isub, 1) := by decide +kernel
theorem d_Reader_takeNumber_64 : decode zy_Reader_takeNumber.2.1 64 = .ok (.iadd, 1) := by decide +kernel
theorem d_Reader_takeNumber_65 : decode zy_Reader_takeNumber.2.1 65 = .ok (.putfield 28, 3) := by decide +kernel
theorem d_Reader_takeNumber_68 : decode zy_Reader_takeNumber.2.1 68 = .ok (.aload_n 0, 1) := by decide +kernel
theorem d_Reader_takeNumber_69 : decode zy_Reader_takeNumber.2.1 69 = .ok (.dup, 1) := by decide +kernel
theorem d_Reader_takeNumber_70 : decode zy_Reader_takeNumber.2.1 70 = .ok (.getfield 19, 3) := by decide +kernel
theorem d_Reader_takeNumber_73 : decode zy_Reader_takeNumber.2.1 73 = .ok (.iconst 1, 1) := by decide +kernel
theorem d_Reader_takeNumber_74 : decode zy_Reader_takeNumber.2.1 74 = .ok (.iadd, 1) := by decide +kernel
theorem d_Reader_takeNumber_75 : decode zy_Reader_takeNumber.2.1 75 = .ok (.putfield 19, 3) := by decide +kernel
theorem d_Reader_takeNumber_78 : decode zy_Reader_takeNumber.2.1 78 = .ok (.goto (-73), 3) := by decide +kernel
theorem d_Reader_takeNumber_81 : decode zy_Reader_takeNumber.2.1 81 = .ok (.aload_n 0, 1) := by decide +kernel
theorem d_Reader_takeNumber_82 : decode zy_Reader_takeNumber.2.1 82 = .ok (.aload_n 0, 1) := by decide +kernel
theorem d_Reader_takeNumber_83 : decode zy_Reader_takeNumber.2.1 83 = .ok (.getfield 19, 3) := by decide +kernel
theorem d_Reader_takeNumber_86 : decode zy_Reader_takeNumber.2.1 86 = .ok (.aload_n 0, 1) := by decide +kernel
theorem d_Reader_takeNumber_87 : decode zy_Reader_takeNumber.2.1 87 = .ok (.getfield 25, 3) := by decide +kernel
theorem d_Reader_takeNumber_90 : decode zy_Reader_takeNumber.2.1 90 = .ok (.isub, 1) := by decide +kernel
theorem d_Reader_takeNumber_91 : decode zy_Reader_takeNumber.2.1 91 = .ok (.iconst 4, 1) := by decide +kernel
theorem d_Reader_takeNumber_92 : decode zy_Reader_takeNumber.2.1 92 = .ok (.if_icmp .le (8), 3) := by decide +kernel
theorem d_Reader_takeNumber_95 : decode zy_Reader_takeNumber.2.1 95 = .ok (.bipush 14, 2) := by decide +kernel
theorem d_Reader_takeNumber_97 : decode zy_Reader_takeNumber.2.1 97 = .ok (.goto (5), 3) := by decide +kernel
theorem d_Reader_takeNumber_100 : decode zy_Reader_takeNumber.2.1 100 = .ok (.bipush 12, 2) := by decide +kernel
theorem d_Reader_takeNumber_102 : decode zy_Reader_takeNumber.2.1 102 = .ok (.putfield 22, 3) := by decide +kernel
theorem d_Reader_takeNumber_105 : decode zy_Reader_takeNumber.2.1 105 = .ok (.return_, 1) := by decide +kernel
theorem d_Sheet_become_0 : decode zy_Sheet_become.2.1 0 = .ok (.aload_n 0, 1) := by decide +kernel
theorem d_Sheet_become_1 : decode zy_Sheet_become.2.1 1 = .ok (.iload_n 1, 1) := by decide +kernel
theorem d_Sheet_become_2 : decode zy_Sheet_become.2.1 2 = .ok (.putfield 11, 3) := by decide +kernel
theorem d_Sheet_become_5 : decode zy_Sheet_become.2.1 5 = .ok (.aload_n 0, 1) := by decide +kernel
theorem d_Sheet_become_6 : decode zy_Sheet_become.2.1 6 = .ok (.iload_n 2, 1) := by decide +kernel
theorem d_Sheet_become_7 : decode zy_Sheet_become.2.1 7 = .ok (.putfield 15, 3) := by decide +kernel
theorem d_Sheet_become_10 : decode zy_Sheet_become.2.1 10 = .ok (.aload_n 0, 1) := by decide +kernel
theorem d_Sheet_become_11 : decode zy_Sheet_become.2.1 11 = .ok (.getfield 18, 3) := by decide +kernel
theorem d_Sheet_become_14 : decode zy_Sheet_become.2.1 14 = .ok (.iconst 0, 1) := by decide +kernel
theorem d_Sheet_become_15 : decode zy_Sheet_become.2.1 15 = .ok (.invokestatic 22, 3) := by decide +kernel
theorem d_Sheet_become_18 : decode zy_Sheet_become.2.1 18 = .ok (.return_, 1) := by decide +kernel
theorem d_Sheet_put_0 : decode zy_Sheet_put.2.1 0 = .ok (.aload_n 0, 1) := by decide +kernel
theorem d_Sheet_put_1 : decode zy_Sheet_put.2.1 1 = .ok (.iload_n 1, 1) := by decide +kernel
theorem d_Sheet_put_2 : decode zy_Sheet_put.2.1 2 = .ok (.invokevirtual 28, 3) := by decide +kernel
theorem d_Sheet_put_5 : decode zy_Sheet_put.2.1 5 = .ok (.ifCond .eq (35), 3) := by decide +kernel
theorem d_Sheet_put_8 : decode zy_Sheet_put.2.1 8 = .ok (.aload_n 0, 1) := by decide +kernel
theorem d_Sheet_put_9 : decode zy_Sheet_put.2.1 9 = .ok (.getfield 18, 3) := by decide +kernel
theorem d_Sheet_put_12 : decode zy_Sheet_put.2.1 12 = .ok (.iload_n 1, 1) := by decide +kernel
theorem d_Sheet_put_13 : decode zy_Sheet_put.2.1 13 = .ok (.aload_n 0, 1) := by decide +kernel
theorem d_Sheet_put_14 : decode zy_Sheet_put.2.1 14 = .ok (.getfield 11, 3) := by decide +kernel
theorem d_Sheet_put_17 : decode zy_Sheet_put.2.1 17 = .ok (.ifCond .ne (8), 3) := by decide +kernel
theorem d_Sheet_put_20 : decode zy_Sheet_put.2.1 20 = .ok (.iload_n 2, 1) := by decide +kernel
theorem d_Sheet_put_21 : decode zy_Sheet_put.2.1 21 = .ok (.i2b, 1) := by decide +kernel
theorem d_Sheet_put_22 : decode zy_Sheet_put.2.1 22 = .ok (.goto (17), 3) := by decide +kernel
theorem d_Sheet_put_25 : decode zy_Sheet_put.2.1 25 = .ok (.aload_n 0, 1) := by decide +kernel
theorem d_Sheet_put_26 : decode zy_Sheet_put.2.1 26 = .ok (.getfield 11, 3) := by decide +kernel
theorem d_Sheet_put_29 : decode zy_Sheet_put.2.1 29 = .ok (.iconst 1, 1) := by decide +kernel
theorem d_Sheet_put_30 : decode zy_Sheet_put.2.1 30 = .ok (.if_icmp .ne (8), 3) := by decide +kernel
theorem d_Sheet_put_33 : decode zy_Sheet_put.2.1 33 = .ok (.iload_n 2, 1) := by decide +kernel
theorem d_Sheet_put_34 : decode zy_Sheet_put.2.1 34 = .ok (.i2s, 1) := by decide +kernel
theorem d_Sheet_put_35 : decode zy_Sheet_put.2.1 35 = .ok (.goto (4), 3) := by decide +kernel
theorem d_Sheet_put_38 : decode zy_Sheet_put.2.1 38 = .ok (.iload_n 2, 1) := by decide +kernel
theorem d_Sheet_put_39 : decode zy_Sheet_put.2.1 39 = .ok (.iastore, 1) := by decide +kernel
theorem d_Sheet_put_40 : decode zy_Sheet_put.2.1 40 = .ok (.return_, 1) := by decide +kernel
theorem d_Text_valueOf_0 : decode zy_Text_valueOf.2.1 0 = .ok (.iload_n 1, 1) := by decide +kernel
theorem d_Text_valueOf_1 : decode zy_Text_valueOf.2.1 1 = .ok (.ifCond .lt (8), 3) := by decide +kernel
theorem d_Text_valueOf_4 : decode zy_Text_valueOf.2.1 4 = .ok (.iload_n 1, 1) := by decide +kernel
theorem d_Text_valueOf_5 : decode zy_Text_valueOf.2.1 5 = .ok (.iconst 3, 1) := by decide +kernel
theorem d_Text_valueOf_6 : decode zy_Text_valueOf.2.1 6 = .ok (.if_icmp .lt (5), 3) := by decide +kernel
theorem d_Text_valueOf_9 : decode zy_Text_valueOf.2.1 9 = .ok (.iconst 0, 1) := by decide +kernel
theorem d_Text_valueOf_10 : decode zy_Text_valueOf.2.1 10 = .ok (.ireturn, 1) := by decide +kernel
theorem d_Text_valueOf_11 : decode zy_Text_valueOf.2.1 11 = .ok (.iconst 0, 1) := by decide +kernel
theorem d_Text_valueOf_12 : decode zy_Text_valueOf.2.1 12 = .ok (.istore_n 3, 1) := by decide +kernel
theorem d_Text_valueOf_13 : decode zy_Text_valueOf.2.1 13 = .ok (.iload_n 1, 1) := by decide +kernel
theorem d_Text_valueOf_14 : decode zy_Text_valueOf.2.1 14 = .ok (.ifCond .ne (7), 3) := by decide +kernel
theorem d_Text_valueOf_17 : decode zy_Text_valueOf.2.1 17 = .ok (.iconst 0, 1) := by decide +kernel
theorem d_Text_valueOf_18 : decode zy_Text_valueOf.2.1 18 = .ok (.goto (11), 3) := by decide +kernel
theorem d_Text_valueOf_21 : decode zy_Text_valueOf.2.1 21 = .ok (.aload_n 0, 1) := by decide +kernel
theorem d_Text_valueOf_22 : decode zy_Text_valueOf.2.1 22 = .ok (.getfield 19, 3) := by decide +kernel
theorem d_Text_valueOf_25 : decode zy_Text_valueOf.2.1 25 = .ok (.iload_n 1, 1) := by decide +kernel
theorem d_Text_valueOf_26 : decode zy_Text_valueOf.2.1 26 = .ok (.iconst 1, 1) := by decide +kernel
theorem d_Text_valueOf_27 : decode zy_Text_valueOf.2.1 27 = .ok (.isub, 1) := by decide +kernel
theorem d_Text_valueOf_28 : decode zy_Text_valueOf.2.1 28 = .ok (.iaload, 1) := by decide +kernel
theorem d_Text_valueOf_29 : decode zy_Text_valueOf.2.1 29 = .ok (.istore 4, 2) := by decide +kernel
theorem d_Text_valueOf_31 : decode zy_Text_valueOf.2.1 31 = .ok (.iload 4, 2) := by decide +kernel
theorem d_Text_valueOf_33 : decode zy_Text_valueOf.2.1 33 = .ok (.aload_n 0, 1) := by decide +kernel
theorem d_Text_valueOf_34 : decode zy_Text_valueOf.2.1 34 = .ok (.getfield 19, 3) := by decide +kernel
theorem d_Text_valueOf_37 : decode zy_Text_valueOf.2.1 37 = .ok (.iload_n 1, 1) := by decide +kernel
theorem d_Text_valueOf_38 : decode zy_Text_valueOf.2.1 38 = .ok (.iaload, 1) := by decide +kernel
theorem d_Text_valueOf_39 : decode zy_Text_valueOf.2.1 39 = .ok (.if_icmp .ge (166), 3) := by decide +kernel
theorem d_Text_valueOf_42 : decode zy_Text_valueOf.2.1 42 = .ok (.aload_n 0, 1) := by decide +kernel
theorem d_Text_valueOf_43 : decode zy_Text_valueOf.2.1 43 = .ok (.getfield 9, 3) := by decide +kernel
theorem d_Text_valueOf_46 : decode zy_Text_valueOf.2.1 46 = .ok (.iload 4, 2) := by decide +kernel
theorem d_Text_valueOf_48 : decode zy_Text_valueOf.2.1 48 = .ok (.iaload, 1) := by decide +kernel
theorem d_Text_valueOf_49 : decode zy_Text_valueOf.2.1 49 = .ok (.istore 5, 2) := by decide +kernel
theorem d_Text_valueOf_51 : decode zy_Text_valueOf.2.1 51 = .ok (.iload 5, 2) := by decide +kernel
theorem d_Text_valueOf_53 : decode zy_Text_valueOf.2.1 53 = .ok (.sipush 20000, 3) := by decide +kernel
theorem d_Text_valueOf_56 : decode zy_Text_valueOf.2.1 56 = .ok (.if_icmp .ge (27), 3) := by decide +kernel
theorem d_Text_valueOf_59 : decode zy_Text_valueOf.2.1 59 = .ok (.iload_n 3, 1) := by decide +kernel
theorem d_Text_valueOf_60 : decode zy_Text_valueOf.2.1 60 = .ok (.bipush 40, 2) := by decide +kernel
theorem d_Text_valueOf_62 : decode zy_Text_valueOf.2.1 62 = .ok (.if_icmp .ge (21), 3) := by decide +kernel
theorem d_Text_valueOf_65 : decode zy_Text_valueOf.2.1 65 = .ok (.aload_n 0, 1) := by decide +kernel
theorem d_Text_valueOf_66 : decode zy_Text_valueOf.2.1 66 = .ok (.getfield 22, 3) := by decide +kernel
theorem d_Text_valueOf_69 : decode zy_Text_valueOf.2.1 69 = .ok (.iload_n 3, 1) := by decide +kernel
theorem d_Text_valueOf_70 : decode zy_Text_valueOf.2.1 70 = .ok (.iload 5, 2) := by decide +kernel
theorem d_Text_valueOf_72 : decode zy_Text_valueOf.2.1 72 = .ok (.aload_n 2, 1) := by decide +kernel
theorem d_Text_valueOf_73 : decode zy_Text_valueOf.2.1 73 = .ok (.invokestatic 25, 3) := by decide +kernel
theorem d_Text_valueOf_76 : decode zy_Text_valueOf.2.1 76 = .ok (.iastore, 1) := by decide +kernel
theorem d_Text_valueOf_77 : decode zy_Text_valueOf.2.1 77 = .ok (.iinc 3 1, 3) := by decide +kernel
theorem d_Text_valueOf_80 : decode zy_Text_valueOf.2.1 80 = .ok (.goto (119), 3) := by decide +kernel
theorem d_Text_valueOf_83 : decode zy_Text_valueOf.2.1 83 = .ok (.iload 5, 2) := by decide +kernel
theorem d_Text_valueOf_85 : decode zy_Text_valueOf.2.1 85 = .ok (.sipush 20000, 3) := by decide +kernel
theorem d_Text_valueOf_88 : decode zy_Text_valueOf.2.1 88 = .ok (.if_icmp .ne (35), 3) := by decide +kernel
theorem d_Text_valueOf_91 : decode zy_Text_valueOf.2.1 91 = .ok (.iload_n 3, 1) := by decide +kernel
theorem d_Text_valueOf_92 : decode zy_Text_valueOf.2.1 92 = .ok (.iconst 1, 1) := by decide +kernel
theorem d_Text_valueOf_93 : decode zy_Text_valueOf.2.1 93 = .ok (.if_icmp .lt (30), 3) := by decide +kernel
theorem d_Text_valueOf_96 : decode zy_Text_valueOf.2.1 96 = .ok (.aload_n 0, 1) := by decide +kernel
theorem d_Text_valueOf_97 : decode zy_Text_valueOf.2.1 97 = .ok (.getfield 22, 3) := by decide +kernel
theorem d_Text_valueOf_100 : decode zy_Text_valueOf.2.1 100 = .ok (.iload_n 3, 1) := by decide +kernel
theorem d_Text_valueOf_101 : decode zy_Text_valueOf.2.1 101 = .ok (.iconst 1, 1) := by decide +kernel
theorem d_Text_valueOf_102 : decode zy_Text_valueOf.2.1 102 = .ok (.isub, 1) := by decide +kernel
theorem d_Text_valueOf_103 : decode zy_Text_valueOf.2.1 103 = .ok (.aload_n 0, 1) := by decide +kernel
theorem d_Text_valueOf_104 : decode zy_Text_valueOf.2.1 104 = .ok (.getfield 22, 3) := by decide +kernel
theorem d_Text_valueOf_107 : decode zy_Text_valueOf.2.1 107 = .ok (.iload_n 3, 1) := by decide +kernel
theorem d_Text_valueOf_108 : decode zy_Text_valueOf.2.1 108 = .ok (.iconst 1, 1) := by decide +kernel
theorem d_Text_valueOf_109 : decode zy_Text_valueOf.2.1 109 = .ok (.isub, 1) := by decide +kernel
theorem d_Text_valueOf_110 : decode zy_Text_valueOf.2.1 110 = .ok (.iaload, 1) := by decide +kernel
theorem d_Text_valueOf_111 : decode zy_Text_valueOf.2.1 111 = .ok (.ifCond .ne (7), 3) := by decide +kernel
theorem d_Text_valueOf_114 : decode zy_Text_valueOf.2.1 114 = .ok (.iconst 1, 1) := by decide +kernel
theorem d_Text_valueOf_115 : decode zy_Text_valueOf.2.1 115 = .ok (.goto (4), 3) := by decide +kernel
theorem d_Text_valueOf_118 : decode zy_Text_valueOf.2.1 118 = .ok (.iconst 0, 1) := by decide +kernel
theorem d_Text_valueOf_119 : decode zy_Text_valueOf.2.1 119 = .ok (.iastore, 1) := by decide +kernel
theorem d_Text_valueOf_120 : decode zy_Text_valueOf.2.1 120 = .ok (.goto (79), 3) := by decide +kernel
theorem d_Text_valueOf_123 : decode zy_Text_valueOf.2.1 123 = .ok (.iload 5, 2) := by decide +kernel
theorem d_Text_valueOf_125 : decode zy_Text_valueOf.2.1 125 = .ok (.sipush 20001, 3) := by decide +kernel
theorem d_Text_valueOf_128 : decode zy_Text_valueOf.2.1 128 = .ok (.if_icmp .ne (28), 3) := by decide +kernel
theorem d_Text_valueOf_131 : decode zy_Text_valueOf.2.1 131 = .ok (.iload_n 3, 1) := by decide +kernel
theorem d_Text_valueOf_132 : decode zy_Text_valueOf.2.1 132 = .ok (.iconst 1, 1) := by decide +kernel
theorem d_Text_valueOf_133 : decode zy_Text_valueOf.2.1 133 = .ok (.if_icmp .lt (23), 3) := by decide +kernel
theorem d_Text_valueOf_136 : decode zy_Text_valueOf.2.1 136 = .ok (.aload_n 0, 1) := by decide +kernel
theorem d_Text_valueOf_137 : decode zy_Text_valueOf.2.1 137 = .ok (.getfield 22, 3) := by decide +kernel
theorem d_Text_valueOf_140 : decode zy_Text_valueOf.2.1 140 = .ok (.iload_n 3, 1) := by decide +kernel
theorem d_Text_valueOf_141 : decode zy_Text_valueOf.2.1 141 = .ok (.iconst 1, 1) := by decide +kernel
theorem d_Text_valueOf_142 : decode zy_Text_valueOf.2.1 142 = .ok (.isub, 1) := by decide +kernel
theorem d_Text_valueOf_143 : decode zy_Text_valueOf.2.1 143 = .ok (.aload_n 0, 1) := by decide +kernel
theorem d_Text_valueOf_144 : decode zy_Text_valueOf.2.1 144 = .ok (.getfield 22, 3) := by decide +kernel
theorem d_Text_valueOf_147 : decode zy_Text_valueOf.2.1 147 = .ok (.iload_n 3, 1) := by decide +kernel
theorem d_Text_valueOf_148 : decode zy_Text_valueOf.2.1 148 = .ok (.iconst 1, 1) := by decide +kernel
theorem d_Text_valueOf_149 : decode zy_Text_valueOf.2.1 149 = .ok (.isub, 1) := by decide +kernel
theorem d_Text_valueOf_150 : decode zy_Text_valueOf.2.1 150 = .ok (.iaload, 1) := by decide +kernel
theorem d_Text_valueOf_151 : decode zy_Text_valueOf.2.1 151 = .ok (.ineg, 1) := by decide +kernel
theorem d_Text_valueOf_152 : decode zy_Text_valueOf.2.1 152 = .ok (.iastore, 1) := by decide +kernel
theorem d_Text_valueOf_153 : decode zy_Text_valueOf.2.1 153 = .ok (.goto (46), 3) := by decide +kernel
theorem d_Text_valueOf_156 : decode zy_Text_valueOf.2.1 156 = .ok (.iload 5, 2) := by decide +kernel
theorem d_Text_valueOf_158 : decode zy_Text_valueOf.2.1 158 = .ok (.sipush 20001, 3) := by decide +kernel
theorem d_Text_valueOf_161 : decode zy_Text_valueOf.2.1 161 = .ok (.if_icmp .le (38), 3) := by decide +kernel
theorem d_Text_valueOf_164 : decode zy_Text_valueOf.2.1 164 = .ok (.iload_n 3, 1) := by decide +kernel
theorem d_Text_valueOf_165 : decode zy_Text_valueOf.2.1 165 = .ok (.iconst 2, 1) := by decide +kernel
theorem d_Text_valueOf_166 : decode zy_Text_valueOf.2.1 166 = .ok (.if_icmp .lt (33), 3) := by decide +kernel
theorem d_Text_valueOf_169 : decode zy_Text_valueOf.2.1 169 = .ok (.iinc 3 (-1), 3) := by decide +kernel
theorem d_Text_valueOf_172 : decode zy_Text_valueOf.2.1 172 = .ok (.aload_n 0, 1) := by decide +kernel
theorem d_Text_valueOf_173 : decode zy_Text_valueOf.2.1 173 = .ok (.getfield 22, 3) := by decide +kernel
theorem d_Text_valueOf_176 : decode zy_Text_valueOf.2.1 176 = .ok (.iload_n 3, 1) := by decide +kernel
theorem d_Text_valueOf_177 : decode zy_Text_valueOf.2.1 177 = .ok (.iconst 1, 1) := by decide +kernel
theorem d_Text_valueOf_178 : decode zy_Text_valueOf.2.1 178 = .ok (.isub, 1) := by decide +kernel
theorem d_Text_valueOf_179 : decode zy_Text_valueOf.2.1 179 = .ok (.iload 5, 2) := by decide +kernel
theorem d_Text_valueOf_181 : decode zy_Text_valueOf.2.1 181 = .ok (.aload_n 0, 1) := by decide +kernel
theorem d_Text_valueOf_182 : decode zy_Text_valueOf.2.1 182 = .ok (.getfield 22, 3) := by decide +kernel
theorem d_Text_valueOf_185 : decode zy_Text_valueOf.2.1 185 = .ok (.iload_n 3, 1) := by decide +kernel
theorem d_Text_valueOf_186 : decode zy_Text_valueOf.2.1 186 = .ok (.iconst 1, 1) := by decide +kernel
theorem d_Text_valueOf_187 : decode zy_Text_valueOf.2.1 187 = .ok (.isub, 1) := by decide +kernel
theorem d_Text_valueOf_188 : decode zy_Text_valueOf.2.1 188 = .ok (.iaload, 1) := by decide +kernel
theorem d_Text_valueOf_189 : decode zy_Text_valueOf.2.1 189 = .ok (.aload_n 0, 1) := by decide +kernel
theorem d_Text_valueOf_190 : decode zy_Text_valueOf.2.1 190 = .ok (.getfield 22, 3) := by decide +kernel
theorem d_Text_valueOf_193 : decode zy_Text_valueOf.2.1 193 = .ok (.iload_n 3, 1) := by decide +kernel
theorem d_Text_valueOf_194 : decode zy_Text_valueOf.2.1 194 = .ok (.iaload, 1) := by decide +kernel
theorem d_Text_valueOf_195 : decode zy_Text_valueOf.2.1 195 = .ok (.invokestatic 29, 3) := by decide +kernel
theorem d_Text_valueOf_198 : decode zy_Text_valueOf.2.1 198 = .ok (.iastore, 1) := by decide +kernel
theorem d_Text_valueOf_199 : decode zy_Text_valueOf.2.1 199 = .ok (.iinc 4 1, 3) := by decide +kernel
theorem d_Text_valueOf_202 : decode zy_Text_valueOf.2.1 202 = .ok (.goto (-171), 3) := by decide +kernel
theorem d_Text_valueOf_205 : decode zy_Text_valueOf.2.1 205 = .ok (.aload_n 0, 1) := by decide +kernel
theorem d_Text_valueOf_206 : decode zy_Text_valueOf.2.1 206 = .ok (.getfield 22, 3) := by decide +kernel
theorem d_Text_valueOf_209 : decode zy_Text_valueOf.2.1 209 = .ok (.iconst 0, 1) := by decide +kernel
theorem d_Text_valueOf_210 : decode zy_Text_valueOf.2.1 210 = .ok (.iaload, 1) := by decide +kernel
theorem d_Text_valueOf_211 : decode zy_Text_valueOf.2.1 211 = .ok (.ireturn, 1) := by decide +kernel
theorem d_M_canDo_0 : decode zy_M_canDo.2.1 0 = .ok (.aload_n 0, 1) := by decide +kernel
theorem d_M_canDo_1 : decode zy_M_canDo.2.1 1 = .ok (.getfield 42, 3) := by decide +kernel
theorem d_M_canDo_4 : decode zy_M_canDo.2.1 4 = .ok (.bipush 6, 2) := by decide +kernel
theorem d_M_canDo_6 : decode zy_M_canDo.2.1 6 = .ok (.iload_n 1, 1) := by decide +kernel
theorem d_M_canDo_7 : decode zy_M_canDo.2.1 7 = .ok (.imul, 1) := by decide +kernel
theorem d_M_canDo_8 : decode zy_M_canDo.2.1 8 = .ok (.iload_n 2, 1) := by decide +kernel
theorem d_M_canDo_9 : decode zy_M_canDo.2.1 9 = .ok (.iadd, 1) := by decide +kernel
theorem d_M_canDo_10 : decode zy_M_canDo.2.1 10 = .ok (.baload, 1) := by decide +kernel
theorem d_M_canDo_11 : decode zy_M_canDo.2.1 11 = .ok (.ifCond .eq (5), 3) := by decide +kernel
theorem d_M_canDo_14 : decode zy_M_canDo.2.1 14 = .ok (.iconst 0, 1) := by decide +kernel
theorem d_M_canDo_15 : decode zy_M_canDo.2.1 15 = .ok (.ireturn, 1) := by decide +kernel
theorem d_M_canDo_16 : decode zy_M_canDo.2.1 16 = .ok (.aload_n 0, 1) := by decide +kernel
theorem d_M_canDo_17 : decode zy_M_canDo.2.1 17 = .ok (.getfield 24, 3) := by decide +kernel
theorem d_M_canDo_20 : decode zy_M_canDo.2.1 20 = .ok (.iload_n 1, 1) := by decide +kernel
theorem d_M_canDo_21 : decode zy_M_canDo.2.1 21 = .ok (.iaload, 1) := by decide +kernel
theorem d_M_canDo_22 : decode zy_M_canDo.2.1 22 = .ok (.iload_n 2, 1) := by decide +kernel
theorem d_M_canDo_23 : decode zy_M_canDo.2.1 23 = .ok (.if_icmp .eq (31), 3) := by decide +kernel
theorem d_M_canDo_26 : decode zy_M_canDo.2.1 26 = .ok (.aload_n 0, 1) := by decide +kernel
theorem d_M_canDo_27 : decode zy_M_canDo.2.1 27 = .ok (.getfield 39, 3) := by decide +kernel
theorem d_M_canDo_30 : decode zy_M_canDo.2.1 30 = .ok (.bipush 6, 2) := by decide +kernel
theorem d_M_canDo_32 : decode zy_M_canDo.2.1 32 = .ok (.iload_n 1, 1) := by decide +kernel
theorem d_M_canDo_33 : decode zy_M_canDo.2.1 33 = .ok (.imul, 1) := by decide +kernel
theorem d_M_canDo_34 : decode zy_M_canDo.2.1 34 = .ok (.iload_n 2, 1) := by decide +kernel
theorem d_M_canDo_35 : decode zy_M_canDo.2.1 35 = .ok (.iadd, 1) := by decide +kernel
theorem d_M_canDo_36 : decode zy_M_canDo.2.1 36 = .ok (.baload, 1) := by decide +kernel
theorem d_M_canDo_37 : decode zy_M_canDo.2.1 37 = .ok (.ifCond .eq (19), 3) := by decide +kernel
theorem d_M_canDo_40 : decode zy_M_canDo.2.1 40 = .ok (.aload_n 0, 1) := by decide +kernel
theorem d_M_canDo_41 : decode zy_M_canDo.2.1 41 = .ok (.iload_n 1, 1) := by decide +kernel
theorem d_M_canDo_42 : decode zy_M_canDo.2.1 42 = .ok (.iload_n 2, 1) := by decide +kernel
theorem d_M_canDo_43 : decode zy_M_canDo.2.1 43 = .ok (.invokevirtual 140, 3) := by decide +kernel
theorem d_M_canDo_46 : decode zy_M_canDo.2.1 46 = .ok (.aload_n 0, 1) := by decide +kernel
theorem d_M_canDo_47 : decode zy_M_canDo.2.1 47 = .ok (.iload_n 1, 1) := by decide +kernel
theorem d_M_canDo_48 : decode zy_M_canDo.2.1 48 = .ok (.invokevirtual 144, 3) := by decide +kernel
theorem d_M_canDo_51 : decode zy_M_canDo.2.1 51 = .ok (.if_icmp .gt (5), 3) := by decide +kernel
theorem d_M_canDo_54 : decode zy_M_canDo.2.1 54 = .ok (.iconst 1, 1) := by decide +kernel
theorem d_M_canDo_55 : decode zy_M_canDo.2.1 55 = .ok (.ireturn, 1) := by decide +kernel
theorem d_M_canDo_56 : decode zy_M_canDo.2.1 56 = .ok (.iload_n 2, 1) := by decide +kernel
theorem d_M_canDo_57 : decode zy_M_canDo.2.1 57 = .ok (.aload_n 0, 1) := by decide +kernel
theorem d_M_canDo_58 : decode zy_M_canDo.2.1 58 = .ok (.getfield 24, 3) := by decide +kernel
theorem d_M_canDo_61 : decode zy_M_canDo.2.1 61 = .ok (.iload_n 1, 1) := by decide +kernel
theorem d_M_canDo_62 : decode zy_M_canDo.2.1 62 = .ok (.iaload, 1) := by decide +kernel
theorem d_M_canDo_63 : decode zy_M_canDo.2.1 63 = .ok (.iconst 1, 1) := by decide +kernel
theorem d_M_canDo_64 : decode zy_M_canDo.2.1 64 = .ok (.iadd, 1) := by decide +kernel
theorem d_M_canDo_65 : decode zy_M_canDo.2.1 65 = .ok (.if_icmp .eq (15), 3) := by decide +kernel
theorem d_M_canDo_68 : decode zy_M_canDo.2.1 68 = .ok (.iload_n 2, 1) := by decide +kernel
theorem d_M_canDo_69 : decode zy_M_canDo.2.1 69 = .ok (.aload_n 0, 1) := by decide +kernel
theorem d_M_canDo_70 : decode zy_M_canDo.2.1 70 = .ok (.getfield 24, 3) := by decide +kernel
theorem d_M_canDo_73 : decode zy_M_canDo.2.1 73 = .ok (.iload_n 1, 1) := by decide +kernel
theorem d_M_canDo_74 : decode zy_M_canDo.2.1 74 = .ok (.iaload, 1) := by decide +kernel
theorem d_M_canDo_75 : decode zy_M_canDo.2.1 75 = .ok (.iconst 1, 1) := by decide +kernel
theorem d_M_canDo_76 : decode zy_M_canDo.2.1 76 = .ok (.isub, 1) := by decide +kernel
theorem d_M_canDo_77 : decode zy_M_canDo.2.1 77 = .ok (.if_icmp .ne (7), 3) := by decide +kernel
theorem d_M_canDo_80 : decode zy_M_canDo.2.1 80 = .ok (.iconst 1, 1) := by decide +kernel
theorem d_M_canDo_81 : decode zy_M_canDo.2.1 81 = .ok (.goto (4), 3) := by decide +kernel
theorem d_M_canDo_84 : decode zy_M_canDo.2.1 84 = .ok (.iconst 0, 1) := by decide +kernel
theorem d_M_canDo_85 : decode zy_M_canDo.2.1 85 = .ok (.istore_n 3, 1) := by decide +kernel
theorem d_M_canDo_86 : decode zy_M_canDo.2.1 86 = .ok (.aload_n 0, 1) := by decide +kernel
theorem d_M_canDo_87 : decode zy_M_canDo.2.1 87 = .ok (.getfield 21, 3) := by decide +kernel
theorem d_M_canDo_90 : decode zy_M_canDo.2.1 90 = .ok (.iload_n 1, 1) := by decide +kernel
theorem d_M_canDo_91 : decode zy_M_canDo.2.1 91 = .ok (.iaload, 1) := by decide +kernel
theorem d_M_canDo_92 : decode zy_M_canDo.2.1 92 = .ok (.tableswitch (70) (1) (4) #[32, 70, 34, 53], 32) := by decide +kernel
theorem d_M_canDo_124 : decode zy_M_canDo.2.1 124 = .ok (.iload_n 3, 1) := by decide +kernel
theorem d_M_canDo_125 : decode zy_M_canDo.2.1 125 = .ok (.ireturn, 1) := by decide +kernel
theorem d_M_canDo_126 : decode zy_M_canDo.2.1 126 = .ok (.iload_n 3, 1) := by decide +kernel
theorem d_M_canDo_127 : decode zy_M_canDo.2.1 127 = .ok (.ifCond .ne (12), 3) := by decide +kernel
theorem d_M_canDo_130 : decode zy_M_canDo.2.1 130 = .ok (.aload_n 0, 1) := by decide +kernel
theorem d_M_canDo_131 : decode zy_M_canDo.2.1 131 = .ok (.getfield 13, 3) := by decide +kernel
theorem d_M_canDo_134 : decode zy_M_canDo.2.1 134 = .ok (.iload_n 2, 1) := by decide +kernel
theorem d_M_canDo_135 : decode zy_M_canDo.2.1 135 = .ok (.baload, 1) := by decide +kernel
theorem d_M_canDo_136 : decode zy_M_canDo.2.1 136 = .ok (.ifCond .ne (7), 3) := by decide +kernel
theorem d_M_canDo_139 : decode zy_M_canDo.2.1 139 = .ok (.iconst 1, 1) := by decide +kernel
theorem d_M_canDo_140 : decode zy_M_canDo.2.1 140 = .ok (.goto (4), 3) := by decide +kernel
theorem d_M_canDo_143 : decode zy_M_canDo.2.1 143 = .ok (.iconst 0, 1) := by decide +kernel
theorem d_M_canDo_144 : decode zy_M_canDo.2.1 144 = .ok (.ireturn, 1) := by decide +kernel
theorem d_M_canDo_145 : decode zy_M_canDo.2.1 145 = .ok (.aload_n 0, 1) := by decide +kernel
theorem d_M_canDo_146 : decode zy_M_canDo.2.1 146 = .ok (.getfield 17, 3) := by decide +kernel
theorem d_M_canDo_149 : decode zy_M_canDo.2.1 149 = .ok (.iload_n 2, 1) := by decide +kernel
theorem d_M_canDo_150 : decode zy_M_canDo.2.1 150 = .ok (.iaload, 1) := by decide +kernel
theorem d_M_canDo_151 : decode zy_M_canDo.2.1 151 = .ok (.bipush 50, 2) := by decide +kernel
theorem d_M_canDo_153 : decode zy_M_canDo.2.1 153 = .ok (.if_icmp .le (7), 3) := by decide +kernel
theorem d_M_canDo_156 : decode zy_M_canDo.2.1 156 = .ok (.iconst 1, 1) := by decide +kernel
theorem d_M_canDo_157 : decode zy_M_canDo.2.1 157 = .ok (.goto (4), 3) := by decide +kernel
theorem d_M_canDo_160 : decode zy_M_canDo.2.1 160 = .ok (.iconst 0, 1) := by decide +kernel
theorem d_M_canDo_161 : decode zy_M_canDo.2.1 161 = .ok (.ireturn, 1) := by decide +kernel
theorem d_M_canDo_162 : decode zy_M_canDo.2.1 162 = .ok (.iconst 0, 1) := by decide +kernel
theorem d_M_canDo_163 : decode zy_M_canDo.2.1 163 = .ok (.ireturn, 1) := by decide +kernel
theorem d_M_count_0 : decode zy_M_count.2.1 0 = .ok (.iconst 0, 1) := by decide +kernel
theorem d_M_count_1 : decode zy_M_count.2.1 1 = .ok (.istore_n 2, 1) := by decide +kernel
theorem d_M_count_2 : decode zy_M_count.2.1 2 = .ok (.iload_n 1, 1) := by decide +kernel
theorem d_M_count_3 : decode zy_M_count.2.1 3 = .ok (.tableswitch (136) (0) (7) #[45, 50, 55, 60, 65, 70, 75, 110], 45) := by decide +kernel
theorem d_M_count_48 : decode zy_M_count.2.1 48 = .ok (.aload_n 0, 1) := by decide +kernel
theorem d_M_count_49 : decode zy_M_count.2.1 49 = .ok (.getfield 106, 3) := by decide +kernel
theorem d_M_count_52 : decode zy_M_count.2.1 52 = .ok (.ireturn, 1) := by decide +kernel
theorem d_M_count_53 : decode zy_M_count.2.1 53 = .ok (.aload_n 0, 1) := by decide +kernel
theorem d_M_count_54 : decode zy_M_count.2.1 54 = .ok (.getfield 113, 3) := by decide +kernel
theorem d_M_count_57 : decode zy_M_count.2.1 57 = .ok (.ireturn, 1) := by decide +kernel
theorem d_M_count_58 : decode zy_M_count.2.1 58 = .ok (.aload_n 0, 1) := by decide +kernel
theorem d_M_count_59 : decode zy_M_count.2.1 59 = .ok (.getfield 130, 3) := by decide +kernel
theorem d_M_count_62 : decode zy_M_count.2.1 62 = .ok (.ireturn, 1) := by decide +kernel
theorem d_M_count_63 : decode zy_M_count.2.1 63 = .ok (.aload_n 0, 1) := by decide +kernel
theorem d_M_count_64 : decode zy_M_count.2.1 64 = .ok (.getfield 103, 3) := by decide +kernel
theorem d_M_count_67 : decode zy_M_count.2.1 67 = .ok (.ireturn, 1) := by decide +kernel
theorem d_M_count_68 : decode zy_M_count.2.1 68 = .ok (.aload_n 0, 1) := by decide +kernel
theorem d_M_count_69 : decode zy_M_count.2.1 69 = .ok (.getfield 161, 3) := by decide +kernel
theorem d_M_count_72 : decode zy_M_count.2.1 72 = .ok (.ireturn, 1) := by decide +kernel
theorem d_M_count_73 : decode zy_M_count.2.1 73 = .ok (.aload_n 0, 1) := by decide +kernel
theorem d_M_count_74 : decode zy_M_count.2.1 74 = .ok (.getfield 253, 3) := by decide +kernel
theorem d_M_count_77 : decode zy_M_count.2.1 77 = .ok (.ireturn, 1) := by decide +kernel
theorem d_M_count_78 : decode zy_M_count.2.1 78 = .ok (.iconst 0, 1) := by decide +kernel
theorem d_M_count_79 : decode zy_M_count.2.1 79 = .ok (.istore_n 3, 1) := by decide +kernel
theorem d_M_count_80 : decode zy_M_count.2.1 80 = .ok (.iload_n 3, 1) := by decide +kernel
theorem d_M_count_81 : decode zy_M_count.2.1 81 = .ok (.aload_n 0, 1) := by decide +kernel
theorem d_M_count_82 : decode zy_M_count.2.1 82 = .ok (.getfield 106, 3) := by decide +kernel
theorem d_M_count_85 : decode zy_M_count.2.1 85 = .ok (.if_icmp .ge (26), 3) := by decide +kernel
theorem d_M_count_88 : decode zy_M_count.2.1 88 = .ok (.iload_n 2, 1) := by decide +kernel
theorem d_M_count_89 : decode zy_M_count.2.1 89 = .ok (.aload_n 0, 1) := by decide +kernel
theorem d_M_count_90 : decode zy_M_count.2.1 90 = .ok (.getfield 13, 3) := by decide +kernel
theorem d_M_count_93 : decode zy_M_count.2.1 93 = .ok (.iload_n 3, 1) := by decide +kernel
theorem d_M_count_94 : decode zy_M_count.2.1 94 = .ok (.baload, 1) := by decide +kernel
theorem d_M_count_95 : decode zy_M_count.2.1 95 = .ok (.ifCond .eq (7), 3) := by decide +kernel
theorem d_M_count_98 : decode zy_M_count.2.1 98 = .ok (.iconst 1, 1) := by decide +kernel
theorem d_M_count_99 : decode zy_M_count.2.1 99 = .ok (.goto (4), 3) := by decide +kernel
theorem d_M_count_102 : decode zy_M_count.2.1 102 = .ok (.iconst 0, 1) := by decide +kernel
theorem d_M_count_103 : decode zy_M_count.2.1 103 = .ok (.iadd, 1) := by decide +kernel
theorem d_M_count_104 : decode zy_M_count.2.1 104 = .ok (.istore_n 2, 1) := by decide +kernel
theorem d_M_count_105 : decode zy_M_count.2.1 105 = .ok (.iinc 3 1, 3) := by decide +kernel
theorem d_M_count_108 : decode zy_M_count.2.1 108 = .ok (.goto (-28), 3) := by decide +kernel
theorem d_M_count_111 : decode zy_M_count.2.1 111 = .ok (.iload_n 2, 1) := by decide +kernel
theorem d_M_count_112 : decode zy_M_count.2.1 112 = .ok (.ireturn, 1) := by decide +kernel
theorem d_M_count_113 : decode zy_M_count.2.1 113 = .ok (.iconst 0, 1) := by decide +kernel
theorem d_M_count_114 : decode zy_M_count.2.1 114 = .ok (.istore_n 3, 1) := by decide +kernel
theorem d_M_count_115 : decode zy_M_count.2.1 115 = .ok (.iload_n 3, 1) := by decide +kernel
theorem d_M_count_116 : decode zy_M_count.2.1 116 = .ok (.aload_n 0, 1) := by decide +kernel
theorem d_M_count_117 : decode zy_M_count.2.1 117 = .ok (.getfield 113, 3) := by decide +kernel
theorem d_M_count_120 : decode zy_M_count.2.1 120 = .ok (.if_icmp .ge (17), 3) := by decide +kernel
theorem d_M_count_123 : decode zy_M_count.2.1 123 = .ok (.iload_n 2, 1) := by decide +kernel
theorem d_M_count_124 : decode zy_M_count.2.1 124 = .ok (.aload_n 0, 1) := by decide +kernel
theorem d_M_count_125 : decode zy_M_count.2.1 125 = .ok (.iload_n 3, 1) := by decide +kernel
theorem d_M_count_126 : decode zy_M_count.2.1 126 = .ok (.invokevirtual 136, 3) := by decide +kernel
theorem d_M_count_129 : decode zy_M_count.2.1 129 = .ok (.iadd, 1) := by decide +kernel
theorem d_M_count_130 : decode zy_M_count.2.1 130 = .ok (.istore_n 2, 1) := by decide +kernel
theorem d_M_count_131 : decode zy_M_count.2.1 131 = .ok (.iinc 3 1, 3) := by decide +kernel
theorem d_M_count_134 : decode zy_M_count.2.1 134 = .ok (.goto (-19), 3) := by decide +kernel
theorem d_M_count_137 : decode zy_M_count.2.1 137 = .ok (.iload_n 2, 1) := by decide +kernel
theorem d_M_count_138 : decode zy_M_count.2.1 138 = .ok (.ireturn, 1) := by decide +kernel
theorem d_M_count_139 : decode zy_M_count.2.1 139 = .ok (.bipush (-2), 2) := by decide +kernel
theorem d_M_count_141 : decode zy_M_count.2.1 141 = .ok (.ireturn, 1) := by decide +kernel
theorem d_M_feed_0 : decode zy_M_feed.2.1 0 = .ok (.iload_n 1, 1) := by decide +kernel
theorem d_M_feed_1 : decode zy_M_feed.2.1 1 = .ok (.i2l, 1) := by decide +kernel
theorem d_M_feed_2 : decode zy_M_feed.2.1 2 = .ok (.lconst 1, 1) := by decide +kernel
theorem d_M_feed_3 : decode zy_M_feed.2.1 3 = .ok (.ldc2_w 159, 3) := by decide +kernel
theorem d_M_feed_6 : decode zy_M_feed.2.1 6 = .ok (.invokestatic 109, 3) := by decide +kernel
theorem d_M_feed_9 : decode zy_M_feed.2.1 9 = .ok (.ifCond .ne (6), 3) := by decide +kernel
theorem d_M_feed_12 : decode zy_M_feed.2.1 12 = .ok (.bipush (-2), 2) := by decide +kernel
theorem d_M_feed_14 : decode zy_M_feed.2.1 14 = .ok (.ireturn, 1) := by decide +kernel
theorem d_M_feed_15 : decode zy_M_feed.2.1 15 = .ok (.aload_n 0, 1) := by decide +kernel
theorem d_M_feed_16 : decode zy_M_feed.2.1 16 = .ok (.getfield 161, 3) := by decide +kernel
theorem d_M_feed_19 : decode zy_M_feed.2.1 19 = .ok (.iload_n 1, 1) := by decide +kernel
theorem d_M_feed_20 : decode zy_M_feed.2.1 20 = .ok (.iadd, 1) := by decide +kernel
theorem d_M_feed_21 : decode zy_M_feed.2.1 21 = .ok (.sipush 160, 3) := by decide +kernel
theorem d_M_feed_24 : decode zy_M_feed.2.1 24 = .ok (.if_icmp .le (6), 3) := by decide +kernel
theorem d_M_feed_27 : decode zy_M_feed.2.1 27 = .ok (.bipush (-4), 2) := by decide +kernel
theorem d_M_feed_29 : decode zy_M_feed.2.1 29 = .ok (.ireturn, 1) := by decide +kernel
theorem d_M_feed_30 : decode zy_M_feed.2.1 30 = .ok (.iconst 0, 1) := by decide +kernel
theorem d_M_feed_31 : decode zy_M_feed.2.1 31 = .ok (.istore 4, 2) := by decide +kernel
theorem d_M_feed_33 : decode zy_M_feed.2.1 33 = .ok (.iload 4, 2) := by decide +kernel
theorem d_M_feed_35 : decode zy_M_feed.2.1 35 = .ok (.iload_n 1, 1) := by decide +kernel
theorem d_M_feed_36 : decode zy_M_feed.2.1 36 = .ok (.if_icmp .ge (40), 3) := by decide +kernel
theorem d_M_feed_39 : decode zy_M_feed.2.1 39 = .ok (.aload_n 0, 1) := by decide +kernel
theorem d_M_feed_40 : decode zy_M_feed.2.1 40 = .ok (.getfield 45, 3) := by decide +kernel
theorem d_M_feed_43 : decode zy_M_feed.2.1 43 = .ok (.aload_n 0, 1) := by decide +kernel
theorem d_M_feed_44 : decode zy_M_feed.2.1 44 = .ok (.getfield 161, 3) := by decide +kernel
theorem d_M_feed_47 : decode zy_M_feed.2.1 47 = .ok (.lload_n 2, 1) := by decide +kernel
theorem d_M_feed_48 : decode zy_M_feed.2.1 48 = .ok (.bipush 8, 2) := by decide +kernel
theorem d_M_feed_50 : decode zy_M_feed.2.1 50 = .ok (.iload 4, 2) := by decide +kernel
theorem d_M_feed_52 : decode zy_M_feed.2.1 52 = .ok (.imul, 1) := by decide +kernel
theorem d_M_feed_53 : decode zy_M_feed.2.1 53 = .ok (.lshr, 1) := by decide +kernel
theorem d_M_feed_54 : decode zy_M_feed.2.1 54 = .ok (.ldc2_w 164, 3) := by decide +kernel
theorem d_M_feed_57 : decode zy_M_feed.2.1 57 = .ok (.land, 1) := by decide +kernel
theorem d_M_feed_58 : decode zy_M_feed.2.1 58 = .ok (.l2i, 1) := by decide +kernel
theorem d_M_feed_59 : decode zy_M_feed.2.1 59 = .ok (.iastore, 1) := by decide +kernel
theorem d_M_feed_60 : decode zy_M_feed.2.1 60 = .ok (.aload_n 0, 1) := by decide +kernel
theorem d_M_feed_61 : decode zy_M_feed.2.1 61 = .ok (.dup, 1) := by decide +kernel
theorem d_M_feed_62 : decode zy_M_feed.2.1 62 = .ok (.getfield 161, 3) := by decide +kernel
theorem d_M_feed_65 : decode zy_M_feed.2.1 65 = .ok (.iconst 1, 1) := by decide +kernel
theorem d_M_feed_66 : decode zy_M_feed.2.1 66 = .ok (.iadd, 1) := by decide +kernel
theorem d_M_feed_67 : decode zy_M_feed.2.1 67 = .ok (.putfield 161, 3) := by decide +kernel
theorem d_M_feed_70 : decode zy_M_feed.2.1 70 = .ok (.iinc 4 1, 3) := by decide +kernel
theorem d_M_feed_73 : decode zy_M_feed.2.1 73 = .ok (.goto (-40), 3) := by decide +kernel
theorem d_M_feed_76 : decode zy_M_feed.2.1 76 = .ok (.aload_n 0, 1) := by decide +kernel
theorem d_M_feed_77 : decode zy_M_feed.2.1 77 = .ok (.getfield 161, 3) := by decide +kernel
theorem d_M_feed_80 : decode zy_M_feed.2.1 80 = .ok (.ireturn, 1) := by decide +kernel
theorem d_M_first_0 : decode zy_M_first.2.1 0 = .ok (.iconst (-1), 1) := by decide +kernel
theorem d_M_first_1 : decode zy_M_first.2.1 1 = .ok (.istore_n 1, 1) := by decide +kernel
theorem d_M_first_2 : decode zy_M_first.2.1 2 = .ok (.iconst 0, 1) := by decide +kernel
theorem d_M_first_3 : decode zy_M_first.2.1 3 = .ok (.istore_n 2, 1) := by decide +kernel
theorem d_M_first_4 : decode zy_M_first.2.1 4 = .ok (.iconst 0, 1) := by decide +kernel
theorem d_M_first_5 : decode zy_M_first.2.1 5 = .ok (.istore_n 3, 1) := by decide +kernel
theorem d_M_first_6 : decode zy_M_first.2.1 6 = .ok (.iload_n 3, 1) := by decide +kernel
theorem d_M_first_7 : decode zy_M_first.2.1 7 = .ok (.aload_n 0, 1) := by decide +kernel
theorem d_M_first_8 : decode zy_M_first.2.1 8 = .ok (.getfield 113, 3) := by decide +kernel
theorem d_M_first_11 : decode zy_M_first.2.1 11 = .ok (.if_icmp .ge (110), 3) := by decide +kernel
theorem d_M_first_14 : decode zy_M_first.2.1 14 = .ok (.iconst 0, 1) := by decide +kernel
theorem d_M_first_15 : decode zy_M_first.2.1 15 = .ok (.istore 4, 2) := by decide +kernel
theorem d_M_first_17 : decode zy_M_first.2.1 17 = .ok (.iload 4, 2) := by decide +kernel
theorem d_M_first_19 : decode zy_M_first.2.1 19 = .ok (.aload_n 0, 1) := by decide +kernel
theorem d_M_first_20 : decode zy_M_first.2.1 20 = .ok (.getfield 106, 3) := by decide +kernel
theorem d_M_first_23 : decode zy_M_first.2.1 23 = .ok (.if_icmp .ge (92), 3) := by decide +kernel
theorem d_M_first_26 : decode zy_M_first.2.1 26 = .ok (.aload_n 0, 1) := by decide +kernel
theorem d_M_first_27 : decode zy_M_first.2.1 27 = .ok (.iload_n 3, 1) := by decide +kernel
theorem d_M_first_28 : decode zy_M_first.2.1 28 = .ok (.invokevirtual 144, 3) := by decide +kernel
theorem d_M_first_31 : decode zy_M_first.2.1 31 = .ok (.aload_n 0, 1) := by decide +kernel
theorem d_M_first_32 : decode zy_M_first.2.1 32 = .ok (.iload_n 3, 1) := by decide +kernel
theorem d_M_first_33 : decode zy_M_first.2.1 33 = .ok (.iload 4, 2) := by decide +kernel
theorem d_M_first_35 : decode zy_M_first.2.1 35 = .ok (.invokevirtual 140, 3) := by decide +kernel
theorem d_M_first_38 : decode zy_M_first.2.1 38 = .ok (.isub, 1) := by decide +kernel
theorem d_M_first_39 : decode zy_M_first.2.1 39 = .ok (.istore 5, 2) := by decide +kernel
theorem d_M_first_41 : decode zy_M_first.2.1 41 = .ok (.aload_n 0, 1) := by decide +kernel
theorem d_M_first_42 : decode zy_M_first.2.1 42 = .ok (.getfield 39, 3) := by decide +kernel
theorem d_M_first_45 : decode zy_M_first.2.1 45 = .ok (.bipush 6, 2) := by decide +kernel
theorem d_M_first_47 : decode zy_M_first.2.1 47 = .ok (.iload_n 3, 1) := by decide +kernel
theorem d_M_first_48 : decode zy_M_first.2.1 48 = .ok (.imul, 1) := by decide +kernel
theorem d_M_first_49 : decode zy_M_first.2.1 49 = .ok (.iload 4, 2) := by decide +kernel
theorem d_M_first_51 : decode zy_M_first.2.1 51 = .ok (.iadd, 1) := by decide +kernel
theorem d_M_first_52 : decode zy_M_first.2.1 52 = .ok (.baload, 1) := by decide +kernel
theorem d_M_first_53 : decode zy_M_first.2.1 53 = .ok (.ifCond .eq (27), 3) := by decide +kernel
theorem d_M_first_56 : decode zy_M_first.2.1 56 = .ok (.aload_n 0, 1) := by decide +kernel
theorem d_M_first_57 : decode zy_M_first.2.1 57 = .ok (.getfield 42, 3) := by decide +kernel
theorem d_M_first_60 : decode zy_M_first.2.1 60 = .ok (.bipush 6, 2) := by decide +kernel
theorem d_M_first_62 : decode zy_M_first.2.1 62 = .ok (.iload_n 3, 1) := by decide +kernel
theorem d_M_first_63 : decode zy_M_first.2.1 63 = .ok (.imul, 1) := by decide +kernel
theorem d_M_first_64 : decode zy_M_first.2.1 64 = .ok (.iload 4, 2) := by decide +kernel
theorem d_M_first_66 : decode zy_M_first.2.1 66 = .ok (.iadd, 1) := by decide +kernel
theorem d_M_first_67 : decode zy_M_first.2.1 67 = .ok (.baload, 1) := by decide +kernel
theorem d_M_first_68 : decode zy_M_first.2.1 68 = .ok (.ifCond .ne (12), 3) := by decide +kernel
theorem d_M_first_71 : decode zy_M_first.2.1 71 = .ok (.iload 5, 2) := by decide +kernel
theorem d_M_first_73 : decode zy_M_first.2.1 73 = .ok (.ifCond .lt (7), 3) := by decide +kernel
theorem d_M_first_76 : decode zy_M_first.2.1 76 = .ok (.iconst 1, 1) := by decide +kernel
theorem d_M_first_77 : decode zy_M_first.2.1 77 = .ok (.goto (4), 3) := by decide +kernel
theorem d_M_first_80 : decode zy_M_first.2.1 80 = .ok (.iconst 0, 1) := by decide +kernel
theorem d_M_first_81 : decode zy_M_first.2.1 81 = .ok (.istore 6, 2) := by decide +kernel
theorem d_M_first_83 : decode zy_M_first.2.1 83 = .ok (.iload 6, 2) := by decide +kernel
theorem d_M_first_85 : decode zy_M_first.2.1 85 = .ok (.ifCond .eq (24), 3) := by decide +kernel
theorem d_M_first_88 : decode zy_M_first.2.1 88 = .ok (.iload_n 1, 1) := by decide +kernel
theorem d_M_first_89 : decode zy_M_first.2.1 89 = .ok (.ifCond .lt (9), 3) := by decide +kernel
theorem d_M_first_92 : decode zy_M_first.2.1 92 = .ok (.iload 5, 2) := by decide +kernel
theorem d_M_first_94 : decode zy_M_first.2.1 94 = .ok (.iload_n 2, 1) := by decide +kernel
theorem d_M_first_95 : decode zy_M_first.2.1 95 = .ok (.if_icmp .ge (14), 3) := by decide +kernel
theorem d_M_first_98 : decode zy_M_first.2.1 98 = .ok (.bipush 10, 2) := by decide +kernel
theorem d_M_first_100 : decode zy_M_first.2.1 100 = .ok (.iload_n 3, 1) := by decide +kernel
theorem d_M_first_101 : decode zy_M_first.2.1 101 = .ok (.imul, 1) := by decide +kernel
theorem d_M_first_102 : decode zy_M_first.2.1 102 = .ok (.iload 4, 2) := by decide +kernel
theorem d_M_first_104 : decode zy_M_first.2.1 104 = .ok (.iadd, 1) := by decide +kernel
theorem d_M_first_105 : decode zy_M_first.2.1 105 = .ok (.istore_n 1, 1) := by decide +kernel
theorem d_M_first_106 : decode zy_M_first.2.1 106 = .ok (.iload 5, 2) := by decide +kernel
theorem d_M_first_108 : decode zy_M_first.2.1 108 = .ok (.istore_n 2, 1) := by decide +kernel
theorem d_M_first_109 : decode zy_M_first.2.1 109 = .ok (.iinc 4 1, 3) := by decide +kernel
theorem d_M_first_112 : decode zy_M_first.2.1 112 = .ok (.goto (-95), 3) := by decide +kernel
theorem d_M_first_115 : decode zy_M_first.2.1 115 = .ok (.iinc 3 1, 3) := by decide +kernel
theorem d_M_first_118 : decode zy_M_first.2.1 118 = .ok (.goto (-112), 3) := by decide +kernel
theorem d_M_first_121 : decode zy_M_first.2.1 121 = .ok (.iload_n 1, 1) := by decide +kernel
theorem d_M_first_122 : decode zy_M_first.2.1 122 = .ok (.ireturn, 1) := by decide +kernel
theorem d_M_force_0 : decode zy_M_force.2.1 0 = .ok (.iload_n 1, 1) := by decide +kernel
theorem d_M_force_1 : decode zy_M_force.2.1 1 = .ok (.i2l, 1) := by decide +kernel
theorem d_M_force_2 : decode zy_M_force.2.1 2 = .ok (.lconst 0, 1) := by decide +kernel
theorem d_M_force_3 : decode zy_M_force.2.1 3 = .ok (.aload_n 0, 1) := by decide +kernel
theorem d_M_force_4 : decode zy_M_force.2.1 4 = .ok (.getfield 103, 3) := by decide +kernel
theorem d_M_force_7 : decode zy_M_force.2.1 7 = .ok (.iconst 1, 1) := by decide +kernel
theorem d_M_force_8 : decode zy_M_force.2.1 8 = .ok (.isub, 1) := by decide +kernel
theorem d_M_force_9 : decode zy_M_force.2.1 9 = .ok (.i2l, 1) := by decide +kernel
theorem d_M_force_10 : decode zy_M_force.2.1 10 = .ok (.invokestatic 109, 3) := by decide +kernel
theorem d_M_force_13 : decode zy_M_force.2.1 13 = .ok (.ifCond .ne (6), 3) := by decide +kernel
theorem d_M_force_16 : decode zy_M_force.2.1 16 = .ok (.bipush (-2), 2) := by decide +kernel
theorem d_M_force_18 : decode zy_M_force.2.1 18 = .ok (.ireturn, 1) := by decide +kernel
theorem d_M_force_19 : decode zy_M_force.2.1 19 = .ok (.aload_n 0, 1) := by decide +kernel
theorem d_M_force_20 : decode zy_M_force.2.1 20 = .ok (.getfield 253, 3) := by decide +kernel
theorem d_M_force_23 : decode zy_M_force.2.1 23 = .ok (.istore_n 2, 1) := by decide +kernel
theorem d_M_force_24 : decode zy_M_force.2.1 24 = .ok (.aload_n 0, 1) := by decide +kernel
theorem d_M_force_25 : decode zy_M_force.2.1 25 = .ok (.iload_n 1, 1) := by decide +kernel
theorem d_M_force_26 : decode zy_M_force.2.1 26 = .ok (.putfield 253, 3) := by decide +kernel
theorem d_M_force_29 : decode zy_M_force.2.1 29 = .ok (.iload_n 2, 1) := by decide +kernel
theorem d_M_force_30 : decode zy_M_force.2.1 30 = .ok (.ireturn, 1) := by decide +kernel
theorem d_M_isDigit_0 : decode zy_M_isDigit.2.1 0 = .ok (.iload_n 0, 1) := by decide +kernel
theorem d_M_isDigit_1 : decode zy_M_isDigit.2.1 1 = .ok (.i2l, 1) := by decide +kernel
theorem d_M_isDigit_2 : decode zy_M_isDigit.2.1 2 = .ok (.ldc2_w 176, 3) := by decide +kernel
theorem d_M_isDigit_5 : decode zy_M_isDigit.2.1 5 = .ok (.ldc2_w 178, 3) := by decide +kernel
theorem d_M_isDigit_8 : decode zy_M_isDigit.2.1 8 = .ok (.invokestatic 109, 3) := by decide +kernel
theorem d_M_isDigit_11 : decode zy_M_isDigit.2.1 11 = .ok (.ireturn, 1) := by decide +kernel
theorem d_M_isLetter_0 : decode zy_M_isLetter.2.1 0 = .ok (.iload_n 0, 1) := by decide +kernel
theorem d_M_isLetter_1 : decode zy_M_isLetter.2.1 1 = .ok (.i2l, 1) := by decide +kernel
theorem d_M_isLetter_2 : decode zy_M_isLetter.2.1 2 = .ok (.ldc2_w 172, 3) := by decide +kernel
theorem d_M_isLetter_5 : decode zy_M_isLetter.2.1 5 = .ok (.ldc2_w 174, 3) := by decide +kernel
theorem d_M_isLetter_8 : decode zy_M_isLetter.2.1 8 = .ok (.invokestatic 109, 3) := by decide +kernel
theorem d_M_isLetter_11 : decode zy_M_isLetter.2.1 11 = .ok (.ireturn, 1) := by decide +kernel
theorem d_M_isPerson_0 : decode zy_M_isPerson.2.1 0 = .ok (.iload_n 1, 1) := by decide +kernel
theorem d_M_isPerson_1 : decode zy_M_isPerson.2.1 1 = .ok (.i2l, 1) := by decide +kernel
theorem d_M_isPerson_2 : decode zy_M_isPerson.2.1 2 = .ok (.lconst 0, 1) := by decide +kernel
theorem d_M_isPerson_3 : decode zy_M_isPerson.2.1 3 = .ok (.aload_n 0, 1) := by decide +kernel
theorem d_M_isPerson_4 : decode zy_M_isPerson.2.1 4 = .ok (.getfield 113, 3) := by decide +kernel
theorem d_M_isPerson_7 : decode zy_M_isPerson.2.1 7 = .ok (.iconst 1, 1) := by decide +kernel
theorem d_M_isPerson_8 : decode zy_M_isPerson.2.1 8 = .ok (.isub, 1) := by decide +kernel
theorem d_M_isPerson_9 : decode zy_M_isPerson.2.1 9 = .ok (.i2l, 1) := by decide +kernel
theorem d_M_isPerson_10 : decode zy_M_isPerson.2.1 10 = .ok (.invokestatic 109, 3) := by decide +kernel
theorem d_M_isPerson_13 : decode zy_M_isPerson.2.1 13 = .ok (.ireturn, 1) := by decide +kernel
theorem d_M_isPost_0 : decode zy_M_isPost.2.1 0 = .ok (.iload_n 1, 1) := by decide +kernel
theorem d_M_isPost_1 : decode zy_M_isPost.2.1 1 = .ok (.i2l, 1) := by decide +kernel
theorem d_M_isPost_2 : decode zy_M_isPost.2.1 2 = .ok (.lconst 0, 1) := by decide +kernel
theorem d_M_isPost_3 : decode zy_M_isPost.2.1 3 = .ok (.aload_n 0, 1) := by decide +kernel
theorem d_M_isPost_4 : decode zy_M_isPost.2.1 4 = .ok (.getfield 106, 3) := by decide +kernel
theorem d_M_isPost_7 : decode zy_M_isPost.2.1 7 = .ok (.iconst 1, 1) := by decide +kernel
theorem d_M_isPost_8 : decode zy_M_isPost.2.1 8 = .ok (.isub, 1) := by decide +kernel
theorem d_M_isPost_9 : decode zy_M_isPost.2.1 9 = .ok (.i2l, 1) := by decide +kernel
theorem d_M_isPost_10 : decode zy_M_isPost.2.1 10 = .ok (.invokestatic 109, 3) := by decide +kernel
theorem d_M_isPost_13 : decode zy_M_isPost.2.1 13 = .ok (.ireturn, 1) := by decide +kernel
theorem d_M_isSheet_0 : decode zy_M_isSheet.2.1 0 = .ok (.iload_n 0, 1) := by decide +kernel
theorem d_M_isSheet_1 : decode zy_M_isSheet.2.1 1 = .ok (.i2l, 1) := by decide +kernel
theorem d_M_isSheet_2 : decode zy_M_isSheet.2.1 2 = .ok (.lconst 0, 1) := by decide +kernel
theorem d_M_isSheet_3 : decode zy_M_isSheet.2.1 3 = .ok (.ldc2_w 354, 3) := by decide +kernel
theorem d_M_isSheet_6 : decode zy_M_isSheet.2.1 6 = .ok (.invokestatic 109, 3) := by decide +kernel
theorem d_M_isSheet_9 : decode zy_M_isSheet.2.1 9 = .ok (.ireturn, 1) := by decide +kernel
theorem d_M_post_0 : decode zy_M_post.2.1 0 = .ok (.iload_n 1, 1) := by decide +kernel
theorem d_M_post_1 : decode zy_M_post.2.1 1 = .ok (.i2l, 1) := by decide +kernel
theorem d_M_post_2 : decode zy_M_post.2.1 2 = .ok (.lconst 0, 1) := by decide +kernel
theorem d_M_post_3 : decode zy_M_post.2.1 3 = .ok (.lconst 1, 1) := by decide +kernel
theorem d_M_post_4 : decode zy_M_post.2.1 4 = .ok (.invokestatic 109, 3) := by decide +kernel
theorem d_M_post_7 : decode zy_M_post.2.1 7 = .ok (.ifCond .eq (15), 3) := by decide +kernel
theorem d_M_post_10 : decode zy_M_post.2.1 10 = .ok (.iload_n 2, 1) := by decide +kernel
theorem d_M_post_11 : decode zy_M_post.2.1 11 = .ok (.i2l, 1) := by decide +kernel
theorem d_M_post_12 : decode zy_M_post.2.1 12 = .ok (.lconst 0, 1) := by decide +kernel
theorem d_M_post_13 : decode zy_M_post.2.1 13 = .ok (.ldc2_w 116, 3) := by decide +kernel
theorem d_M_post_16 : decode zy_M_post.2.1 16 = .ok (.invokestatic 109, 3) := by decide +kernel
theorem d_M_post_19 : decode zy_M_post.2.1 19 = .ok (.ifCond .ne (6), 3) := by decide +kernel
theorem d_M_post_22 : decode zy_M_post.2.1 22 = .ok (.bipush (-2), 2) := by decide +kernel
theorem d_M_post_24 : decode zy_M_post.2.1 24 = .ok (.ireturn, 1) := by decide +kernel
theorem d_M_post_25 : decode zy_M_post.2.1 25 = .ok (.aload_n 0, 1) := by decide +kernel
theorem d_M_post_26 : decode zy_M_post.2.1 26 = .ok (.getfield 106, 3) := by decide +kernel
theorem d_M_post_29 : decode zy_M_post.2.1 29 = .ok (.bipush 6, 2) := by decide +kernel
theorem d_M_post_31 : decode zy_M_post.2.1 31 = .ok (.if_icmp .ne (6), 3) := by decide +kernel
theorem d_M_post_34 : decode zy_M_post.2.1 34 = .ok (.bipush (-4), 2) := by decide +kernel
theorem d_M_post_36 : decode zy_M_post.2.1 36 = .ok (.ireturn, 1) := by decide +kernel
theorem d_M_post_37 : decode zy_M_post.2.1 37 = .ok (.aload_n 0, 1) := by decide +kernel
theorem d_M_post_38 : decode zy_M_post.2.1 38 = .ok (.getfield 13, 3) := by decide +kernel
theorem d_M_post_41 : decode zy_M_post.2.1 41 = .ok (.aload_n 0, 1) := by decide +kernel
theorem d_M_post_42 : decode zy_M_post.2.1 42 = .ok (.getfield 106, 3) := by decide +kernel
theorem d_M_post_45 : decode zy_M_post.2.1 45 = .ok (.iload_n 1, 1) := by decide +kernel
theorem d_M_post_46 : decode zy_M_post.2.1 46 = .ok (.iconst 1, 1) := by decide +kernel
theorem d_M_post_47 : decode zy_M_post.2.1 47 = .ok (.if_icmp .ne (7), 3) := by decide +kernel
theorem d_M_post_50 : decode zy_M_post.2.1 50 = .ok (.iconst 1, 1) := by decide +kernel
theorem d_M_post_51 : decode zy_M_post.2.1 51 = .ok (.goto (4), 3) := by decide +kernel
theorem d_M_post_54 : decode zy_M_post.2.1 54 = .ok (.iconst 0, 1) := by decide +kernel
theorem d_M_post_55 : decode zy_M_post.2.1 55 = .ok (.bastore, 1) := by decide +kernel
theorem d_M_post_56 : decode zy_M_post.2.1 56 = .ok (.aload_n 0, 1) := by decide +kernel
theorem d_M_post_57 : decode zy_M_post.2.1 57 = .ok (.getfield 17, 3) := by decide +kernel
theorem d_M_post_60 : decode zy_M_post.2.1 60 = .ok (.aload_n 0, 1) := by decide +kernel
theorem d_M_post_61 : decode zy_M_post.2.1 61 = .ok (.getfield 106, 3) := by decide +kernel
theorem d_M_post_64 : decode zy_M_post.2.1 64 = .ok (.iload_n 2, 1) := by decide +kernel
theorem d_M_post_65 : decode zy_M_post.2.1 65 = .ok (.iastore, 1) := by decide +kernel
theorem d_M_post_66 : decode zy_M_post.2.1 66 = .ok (.aload_n 0, 1) := by decide +kernel
theorem d_M_post_67 : decode zy_M_post.2.1 67 = .ok (.dup, 1) := by decide +kernel
theorem d_M_post_68 : decode zy_M_post.2.1 68 = .ok (.getfield 106, 3) := by decide +kernel
theorem d_M_post_71 : decode zy_M_post.2.1 71 = .ok (.iconst 1, 1) := by decide +kernel
theorem d_M_post_72 : decode zy_M_post.2.1 72 = .ok (.iadd, 1) := by decide +kernel
theorem d_M_post_73 : decode zy_M_post.2.1 73 = .ok (.putfield 106, 3) := by decide +kernel
theorem d_M_post_76 : decode zy_M_post.2.1 76 = .ok (.aload_n 0, 1) := by decide +kernel
theorem d_M_post_77 : decode zy_M_post.2.1 77 = .ok (.getfield 106, 3) := by decide +kernel
theorem d_M_post_80 : decode zy_M_post.2.1 80 = .ok (.iconst 1, 1) := by decide +kernel
theorem d_M_post_81 : decode zy_M_post.2.1 81 = .ok (.isub, 1) := by decide +kernel
theorem d_M_post_82 : decode zy_M_post.2.1 82 = .ok (.ireturn, 1) := by decide +kernel
theorem d_M_says_0 : decode zy_M_says.2.1 0 = .ok (.aload_n 0, 1) := by decide +kernel
theorem d_M_says_1 : decode zy_M_says.2.1 1 = .ok (.getfield 64, 3) := by decide +kernel
theorem d_M_says_4 : decode zy_M_says.2.1 4 = .ok (.iconst 0, 1) := by decide +kernel
theorem d_M_says_5 : decode zy_M_says.2.1 5 = .ok (.aload_n 0, 1) := by decide +kernel
theorem d_M_says_6 : decode zy_M_says.2.1 6 = .ok (.getfield 24, 3) := by decide +kernel
theorem d_M_says_9 : decode zy_M_says.2.1 9 = .ok (.iload_n 2, 1) := by decide +kernel
theorem d_M_says_10 : decode zy_M_says.2.1 10 = .ok (.iaload, 1) := by decide +kernel
theorem d_M_says_11 : decode zy_M_says.2.1 11 = .ok (.iload_n 3, 1) := by decide +kernel
theorem d_M_says_12 : decode zy_M_says.2.1 12 = .ok (.if_icmp .ne (7), 3) := by decide +kernel
theorem d_M_says_15 : decode zy_M_says.2.1 15 = .ok (.iconst 1, 1) := by decide +kernel
theorem d_M_says_16 : decode zy_M_says.2.1 16 = .ok (.goto (4), 3) := by decide +kernel
theorem d_M_says_19 : decode zy_M_says.2.1 19 = .ok (.iconst 0, 1) := by decide +kernel
theorem d_M_says_20 : decode zy_M_says.2.1 20 = .ok (.iastore, 1) := by decide +kernel
theorem d_M_says_21 : decode zy_M_says.2.1 21 = .ok (.aload_n 0, 1) := by decide +kernel
theorem d_M_says_22 : decode zy_M_says.2.1 22 = .ok (.getfield 64, 3) := by decide +kernel
theorem d_M_says_25 : decode zy_M_says.2.1 25 = .ok (.iconst 1, 1) := by decide +kernel
theorem d_M_says_26 : decode zy_M_says.2.1 26 = .ok (.aload_n 0, 1) := by decide +kernel
theorem d_M_says_27 : decode zy_M_says.2.1 27 = .ok (.getfield 27, 3) := by decide +kernel
theorem d_M_says_30 : decode zy_M_says.2.1 30 = .ok (.iload_n 2, 1) := by decide +kernel
theorem d_M_says_31 : decode zy_M_says.2.1 31 = .ok (.iaload, 1) := by decide +kernel
theorem d_M_says_32 : decode zy_M_says.2.1 32 = .ok (.iastore, 1) := by decide +kernel
theorem d_M_says_33 : decode zy_M_says.2.1 33 = .ok (.aload_n 0, 1) := by decide +kernel
theorem d_M_says_34 : decode zy_M_says.2.1 34 = .ok (.getfield 64, 3) := by decide +kernel
theorem d_M_says_37 : decode zy_M_says.2.1 37 = .ok (.iconst 2, 1) := by decide +kernel
theorem d_M_says_38 : decode zy_M_says.2.1 38 = .ok (.aload_n 0, 1) := by decide +kernel
theorem d_M_says_39 : decode zy_M_says.2.1 39 = .ok (.iload_n 2, 1) := by decide +kernel
theorem d_M_says_40 : decode zy_M_says.2.1 40 = .ok (.iload_n 3, 1) := by decide +kernel
theorem d_M_says_41 : decode zy_M_says.2.1 41 = .ok (.invokevirtual 140, 3) := by decide +kernel
theorem d_M_says_44 : decode zy_M_says.2.1 44 = .ok (.iastore, 1) := by decide +kernel
theorem d_M_says_45 : decode zy_M_says.2.1 45 = .ok (.aload_n 0, 1) := by decide +kernel
theorem d_M_says_46 : decode zy_M_says.2.1 46 = .ok (.getfield 64, 3) := by decide +kernel
theorem d_M_says_49 : decode zy_M_says.2.1 49 = .ok (.iconst 3, 1) := by decide +kernel
theorem d_M_says_50 : decode zy_M_says.2.1 50 = .ok (.aload_n 0, 1) := by decide +kernel
theorem d_M_says_51 : decode zy_M_says.2.1 51 = .ok (.getfield 13, 3) := by decide +kernel
theorem d_M_says_54 : decode zy_M_says.2.1 54 = .ok (.iload_n 3, 1) := by decide +kernel
theorem d_M_says_55 : decode zy_M_says.2.1 55 = .ok (.baload, 1) := by decide +kernel
theorem d_M_says_56 : decode zy_M_says.2.1 56 = .ok (.ifCond .eq (7), 3) := by decide +kernel
theorem d_M_says_59 : decode zy_M_says.2.1 59 = .ok (.iconst 1, 1) := by decide +kernel
theorem d_M_says_60 : decode zy_M_says.2.1 60 = .ok (.goto (4), 3) := by decide +kernel
theorem d_M_says_63 : decode zy_M_says.2.1 63 = .ok (.iconst 0, 1) := by decide +kernel
theorem d_M_says_64 : decode zy_M_says.2.1 64 = .ok (.iastore, 1) := by decide +kernel
theorem d_M_says_65 : decode zy_M_says.2.1 65 = .ok (.aload_n 0, 1) := by decide +kernel
theorem d_M_says_66 : decode zy_M_says.2.1 66 = .ok (.getfield 64, 3) := by decide +kernel
theorem d_M_says_69 : decode zy_M_says.2.1 69 = .ok (.iconst 4, 1) := by decide +kernel
theorem d_M_says_70 : decode zy_M_says.2.1 70 = .ok (.aload_n 0, 1) := by decide +kernel
theorem d_M_says_71 : decode zy_M_says.2.1 71 = .ok (.getfield 17, 3) := by decide +kernel
theorem d_M_says_74 : decode zy_M_says.2.1 74 = .ok (.iload_n 3, 1) := by decide +kernel
theorem d_M_says_75 : decode zy_M_says.2.1 75 = .ok (.iaload, 1) := by decide +kernel
theorem d_M_says_76 : decode zy_M_says.2.1 76 = .ok (.iastore, 1) := by decide +kernel
theorem d_M_says_77 : decode zy_M_says.2.1 77 = .ok (.aload_n 0, 1) := by decide +kernel
theorem d_M_says_78 : decode zy_M_says.2.1 78 = .ok (.getfield 64, 3) := by decide +kernel
theorem d_M_says_81 : decode zy_M_says.2.1 81 = .ok (.iconst 5, 1) := by decide +kernel
theorem d_M_says_82 : decode zy_M_says.2.1 82 = .ok (.aload_n 0, 1) := by decide +kernel
theorem d_M_says_83 : decode zy_M_says.2.1 83 = .ok (.iload_n 2, 1) := by decide +kernel
theorem d_M_says_84 : decode zy_M_says.2.1 84 = .ok (.invokevirtual 136, 3) := by decide +kernel
theorem d_M_says_87 : decode zy_M_says.2.1 87 = .ok (.iastore, 1) := by decide +kernel
theorem d_M_says_88 : decode zy_M_says.2.1 88 = .ok (.iconst 0, 1) := by decide +kernel
theorem d_M_says_89 : decode zy_M_says.2.1 89 = .ok (.istore 4, 2) := by decide +kernel
theorem d_M_says_91 : decode zy_M_says.2.1 91 = .ok (.aload_n 0, 1) := by decide +kernel
theorem d_M_says_92 : decode zy_M_says.2.1 92 = .ok (.getfield 51, 3) := by decide +kernel
theorem d_M_says_95 : decode zy_M_says.2.1 95 = .ok (.iconst 3, 1) := by decide +kernel
theorem d_M_says_96 : decode zy_M_says.2.1 96 = .ok (.aload_n 0, 1) := by decide +kernel
theorem d_M_says_97 : decode zy_M_says.2.1 97 = .ok (.getfield 253, 3) := by decide +kernel
theorem d_M_says_100 : decode zy_M_says.2.1 100 = .ok (.imul, 1) := by decide +kernel
theorem d_M_says_101 : decode zy_M_says.2.1 101 = .ok (.iload_n 1, 1) := by decide +kernel
theorem d_M_says_102 : decode zy_M_says.2.1 102 = .ok (.iadd, 1) := by decide +kernel
theorem d_M_says_103 : decode zy_M_says.2.1 103 = .ok (.iaload, 1) := by decide +kernel
theorem d_M_says_104 : decode zy_M_says.2.1 104 = .ok (.istore 5, 2) := by decide +kernel
theorem d_M_says_106 : decode zy_M_says.2.1 106 = .ok (.iload 5, 2) := by decide +kernel
theorem d_M_says_108 : decode zy_M_says.2.1 108 = .ok (.aload_n 0, 1) := by decide +kernel
theorem d_M_says_109 : decode zy_M_says.2.1 109 = .ok (.getfield 54, 3) := by decide +kernel
theorem d_M_says_112 : decode zy_M_says.2.1 112 = .ok (.iconst 3, 1) := by decide +kernel
theorem d_M_says_113 : decode zy_M_says.2.1 113 = .ok (.aload_n 0, 1) := by decide +kernel
theorem d_M_says_114 : decode zy_M_says.2.1 114 = .ok (.getfield 253, 3) := by decide +kernel
theorem d_M_says_117 : decode zy_M_says.2.1 117 = .ok (.imul, 1) := by decide +kernel
theorem d_M_says_118 : decode zy_M_says.2.1 118 = .ok (.iload_n 1, 1) := by decide +kernel
theorem d_M_says_119 : decode zy_M_says.2.1 119 = .ok (.iadd, 1) := by decide +kernel
theorem d_M_says_120 : decode zy_M_says.2.1 120 = .ok (.iaload, 1) := by decide +kernel
theorem d_M_says_121 : decode zy_M_says.2.1 121 = .ok (.if_icmp .ge (158), 3) := by decide +kernel
theorem d_M_says_124 : decode zy_M_says.2.1 124 = .ok (.aload_n 0, 1) := by decide +kernel
theorem d_M_says_125 : decode zy_M_says.2.1 125 = .ok (.getfield 48, 3) := by decide +kernel
theorem d_M_says_128 : decode zy_M_says.2.1 128 = .ok (.iload 5, 2) := by decide +kernel
theorem d_M_says_130 : decode zy_M_says.2.1 130 = .ok (.iaload, 1) := by decide +kernel
theorem d_M_says_131 : decode zy_M_says.2.1 131 = .ok (.istore 6, 2) := by decide +kernel
theorem d_M_says_133 : decode zy_M_says.2.1 133 = .ok (.iload 6, 2) := by decide +kernel
theorem d_M_says_135 : decode zy_M_says.2.1 135 = .ok (.bipush (-100), 2) := by decide +kernel
theorem d_M_says_137 : decode zy_M_says.2.1 137 = .ok (.if_icmp .le (35), 3) := by decide +kernel
theorem d_M_says_140 : decode zy_M_says.2.1 140 = .ok (.aload_n 0, 1) := by decide +kernel
theorem d_M_says_141 : decode zy_M_says.2.1 141 = .ok (.getfield 61, 3) := by decide +kernel
theorem d_M_says_144 : decode zy_M_says.2.1 144 = .ok (.iload 4, 2) := by decide +kernel
theorem d_M_says_146 : decode zy_M_says.2.1 146 = .ok (.iload 6, 2) := by decide +kernel
theorem d_M_says_148 : decode zy_M_says.2.1 148 = .ok (.ifCond .ge (15), 3) := by decide +kernel
theorem d_M_says_151 : decode zy_M_says.2.1 151 = .ok (.aload_n 0, 1) := by decide +kernel
theorem d_M_says_152 : decode zy_M_says.2.1 152 = .ok (.getfield 64, 3) := by decide +kernel
theorem d_M_says_155 : decode zy_M_says.2.1 155 = .ok (.iconst (-1), 1) := by decide +kernel
theorem d_M_says_156 : decode zy_M_says.2.1 156 = .ok (.iload 6, 2) := by decide +kernel
theorem d_M_says_158 : decode zy_M_says.2.1 158 = .ok (.isub, 1) := by decide +kernel
theorem d_M_says_159 : decode zy_M_says.2.1 159 = .ok (.iaload, 1) := by decide +kernel
theorem d_M_says_160 : decode zy_M_says.2.1 160 = .ok (.goto (5), 3) := by decide +kernel
theorem d_M_says_163 : decode zy_M_says.2.1 163 = .ok (.iload 6, 2) := by decide +kernel
theorem d_M_says_165 : decode zy_M_says.2.1 165 = .ok (.iastore, 1) := by decide +kernel
theorem d_M_says_166 : decode zy_M_says.2.1 166 = .ok (.iinc 4 1, 3) := by decide +kernel
theorem d_M_says_169 : decode zy_M_says.2.1 169 = .ok (.goto (104), 3) := by decide +kernel
theorem d_M_says_172 : decode zy_M_says.2.1 172 = .ok (.iload 6, 2) := by decide +kernel
theorem d_M_says_174 : decode zy_M_says.2.1 174 = .ok (.bipush (-100), 2) := by decide +kernel
theorem d_M_says_176 : decode zy_M_says.2.1 176 = .ok (.if_icmp .ne (25), 3) := by decide +kernel
theorem d_M_says_179 : decode zy_M_says.2.1 179 = .ok (.aload_n 0, 1) := by decide +kernel
theorem d_M_says_180 : decode zy_M_says.2.1 180 = .ok (.getfield 61, 3) := by decide +kernel
theorem d_M_says_183 : decode zy_M_says.2.1 183 = .ok (.iload 4, 2) := by decide +kernel
theorem d_M_says_185 : decode zy_M_says.2.1 185 = .ok (.iconst 1, 1) := by decide +kernel
theorem d_M_says_186 : decode zy_M_says.2.1 186 = .ok (.isub, 1) := by decide +kernel
theorem d_M_says_187 : decode zy_M_says.2.1 187 = .ok (.aload_n 0, 1) := by decide +kernel
theorem d_M_says_188 : decode zy_M_says.2.1 188 = .ok (.getfield 61, 3) := by decide +kernel
theorem d_M_says_191 : decode zy_M_says.2.1 191 = .ok (.iload 4, 2) := by decide +kernel
theorem d_M_says_193 : decode zy_M_says.2.1 193 = .ok (.iconst 1, 1) := by decide +kernel
theorem d_M_says_194 : decode zy_M_says.2.1 194 = .ok (.isub, 1) := by decide +kernel
theorem d_M_says_195 : decode zy_M_says.2.1 195 = .ok (.iaload, 1) := by decide +kernel
theorem d_M_says_196 : decode zy_M_says.2.1 196 = .ok (.ineg, 1) := by decide +kernel
theorem d_M_says_197 : decode zy_M_says.2.1 197 = .ok (.iastore, 1) := by decide +kernel
theorem d_M_says_198 : decode zy_M_says.2.1 198 = .ok (.goto (75), 3) := by decide +kernel
theorem d_M_says_201 : decode zy_M_says.2.1 201 = .ok (.iload 6, 2) := by decide +kernel
theorem d_M_says_203 : decode zy_M_says.2.1 203 = .ok (.bipush (-101), 2) := by decide +kernel
theorem d_M_says_205 : decode zy_M_says.2.1 205 = .ok (.if_icmp .ne (32), 3) := by decide +kernel
theorem d_M_says_208 : decode zy_M_says.2.1 208 = .ok (.aload_n 0, 1) := by decide +kernel
theorem d_M_says_209 : decode zy_M_says.2.1 209 = .ok (.getfield 61, 3) := by decide +kernel
theorem d_M_says_212 : decode zy_M_says.2.1 212 = .ok (.iload 4, 2) := by decide +kernel
theorem d_M_says_214 : decode zy_M_says.2.1 214 = .ok (.iconst 1, 1) := by decide +kernel
theorem d_M_says_215 : decode zy_M_says.2.1 215 = .ok (.isub, 1) := by decide +kernel
theorem d_M_says_216 : decode zy_M_says.2.1 216 = .ok (.aload_n 0, 1) := by decide +kernel
theorem d_M_says_217 : decode zy_M_says.2.1 217 = .ok (.getfield 61, 3) := by decide +kernel
theorem d_M_says_220 : decode zy_M_says.2.1 220 = .ok (.iload 4, 2) := by decide +kernel
theorem d_M_says_222 : decode zy_M_says.2.1 222 = .ok (.iconst 1, 1) := by decide +kernel
theorem d_M_says_223 : decode zy_M_says.2.1 223 = .ok (.isub, 1) := by decide +kernel
theorem d_M_says_224 : decode zy_M_says.2.1 224 = .ok (.iaload, 1) := by decide +kernel
theorem d_M_says_225 : decode zy_M_says.2.1 225 = .ok (.ifCond .ne (7), 3) := by decide +kernel
theorem d_M_says_228 : decode zy_M_says.2.1 228 = .ok (.iconst 1, 1) := by decide +kernel
theorem d_M_says_229 : decode zy_M_says.2.1 229 = .ok (.goto (4), 3) := by decide +kernel
theorem d_M_says_232 : decode zy_M_says.2.1 232 = .ok (.iconst 0, 1) := by decide +kernel
theorem d_M_says_233 : decode zy_M_says.2.1 233 = .ok (.iastore, 1) := by decide +kernel
theorem d_M_says_234 : decode zy_M_says.2.1 234 = .ok (.goto (39), 3) := by decide +kernel
theorem d_M_says_237 : decode zy_M_says.2.1 237 = .ok (.iinc 4 (-1), 3) := by decide +kernel
theorem d_M_says_240 : decode zy_M_says.2.1 240 = .ok (.aload_n 0, 1) := by decide +kernel
theorem d_M_says_241 : decode zy_M_says.2.1 241 = .ok (.getfield 61, 3) := by decide +kernel
theorem d_M_says_244 : decode zy_M_says.2.1 244 = .ok (.iload 4, 2) := by decide +kernel
theorem d_M_says_246 : decode zy_M_says.2.1 246 = .ok (.iconst 1, 1) := by decide +kernel
theorem d_M_says_247 : decode zy_M_says.2.1 247 = .ok (.isub, 1) := by decide +kernel
theorem d_M_says_248 : decode zy_M_says.2.1 248 = .ok (.bipush (-100), 2) := by decide +kernel
theorem d_M_says_250 : decode zy_M_says.2.1 250 = .ok (.iload 6, 2) := by decide +kernel
theorem d_M_says_252 : decode zy_M_says.2.1 252 = .ok (.isub, 1) := by decide +kernel
theorem d_M_says_253 : decode zy_M_says.2.1 253 = .ok (.aload_n 0, 1) := by decide +kernel
theorem d_M_says_254 : decode zy_M_says.2.1 254 = .ok (.getfield 61, 3) := by decide +kernel
theorem d_M_says_257 : decode zy_M_says.2.1 257 = .ok (.iload 4, 2) := by decide +kernel
theorem d_M_says_259 : decode zy_M_says.2.1 259 = .ok (.iconst 1, 1) := by decide +kernel
theorem d_M_says_260 : decode zy_M_says.2.1 260 = .ok (.isub, 1) := by decide +kernel
theorem d_M_says_261 : decode zy_M_says.2.1 261 = .ok (.iaload, 1) := by decide +kernel
theorem d_M_says_262 : decode zy_M_says.2.1 262 = .ok (.aload_n 0, 1) := by decide +kernel
theorem d_M_says_263 : decode zy_M_says.2.1 263 = .ok (.getfield 61, 3) := by decide +kernel
theorem d_M_says_266 : decode zy_M_says.2.1 266 = .ok (.iload 4, 2) := by decide +kernel
theorem d_M_says_268 : decode zy_M_says.2.1 268 = .ok (.iaload, 1) := by decide +kernel
theorem d_M_says_269 : decode zy_M_says.2.1 269 = .ok (.invokestatic 256, 3) := by decide +kernel
theorem d_M_says_272 : decode zy_M_says.2.1 272 = .ok (.iastore, 1) := by decide +kernel
theorem d_M_says_273 : decode zy_M_says.2.1 273 = .ok (.iinc 5 1, 3) := by decide +kernel
theorem d_M_says_276 : decode zy_M_says.2.1 276 = .ok (.goto (-170), 3) := by decide +kernel
theorem d_M_says_279 : decode zy_M_says.2.1 279 = .ok (.aload_n 0, 1) := by decide +kernel
theorem d_M_says_280 : decode zy_M_says.2.1 280 = .ok (.getfield 61, 3) := by decide +kernel
theorem d_M_says_283 : decode zy_M_says.2.1 283 = .ok (.iconst 0, 1) := by decide +kernel
theorem d_M_says_284 : decode zy_M_says.2.1 284 = .ok (.iaload, 1) := by decide +kernel
theorem d_M_says_285 : decode zy_M_says.2.1 285 = .ok (.ireturn, 1) := by decide +kernel
theorem d_M_years_0 : decode zy_M_years.2.1 0 = .ok (.iload_n 1, 1) := by decide +kernel
theorem d_M_years_1 : decode zy_M_years.2.1 1 = .ok (.i2l, 1) := by decide +kernel
theorem d_M_years_2 : decode zy_M_years.2.1 2 = .ok (.lconst 1, 1) := by decide +kernel
theorem d_M_years_3 : decode zy_M_years.2.1 3 = .ok (.ldc2_w 128, 3) := by decide +kernel
theorem d_M_years_6 : decode zy_M_years.2.1 6 = .ok (.invokestatic 109, 3) := by decide +kernel
theorem d_M_years_9 : decode zy_M_years.2.1 9 = .ok (.ifCond .ne (6), 3) := by decide +kernel
theorem d_M_years_12 : decode zy_M_years.2.1 12 = .ok (.bipush (-2), 2) := by decide +kernel
theorem d_M_years_14 : decode zy_M_years.2.1 14 = .ok (.ireturn, 1) := by decide +kernel
theorem d_M_years_15 : decode zy_M_years.2.1 15 = .ok (.aload_n 0, 1) := by decide +kernel
theorem d_M_years_16 : decode zy_M_years.2.1 16 = .ok (.getfield 130, 3) := by decide +kernel
theorem d_M_years_19 : decode zy_M_years.2.1 19 = .ok (.iload_n 1, 1) := by decide +kernel
theorem d_M_years_20 : decode zy_M_years.2.1 20 = .ok (.iadd, 1) := by decide +kernel
theorem d_M_years_21 : decode zy_M_years.2.1 21 = .ok (.bipush 99, 2) := by decide +kernel
theorem d_M_years_23 : decode zy_M_years.2.1 23 = .ok (.if_icmp .le (6), 3) := by decide +kernel
theorem d_M_years_26 : decode zy_M_years.2.1 26 = .ok (.bipush (-4), 2) := by decide +kernel
theorem d_M_years_28 : decode zy_M_years.2.1 28 = .ok (.ireturn, 1) := by decide +kernel
theorem d_M_years_29 : decode zy_M_years.2.1 29 = .ok (.aload_n 0, 1) := by decide +kernel
theorem d_M_years_30 : decode zy_M_years.2.1 30 = .ok (.dup, 1) := by decide +kernel
theorem d_M_years_31 : decode zy_M_years.2.1 31 = .ok (.getfield 130, 3) := by decide +kernel
theorem d_M_years_34 : decode zy_M_years.2.1 34 = .ok (.iload_n 1, 1) := by decide +kernel
theorem d_M_years_35 : decode zy_M_years.2.1 35 = .ok (.iadd, 1) := by decide +kernel
theorem d_M_years_36 : decode zy_M_years.2.1 36 = .ok (.putfield 130, 3) := by decide +kernel
theorem d_M_years_39 : decode zy_M_years.2.1 39 = .ok (.aload_n 0, 1) := by decide +kernel
theorem d_M_years_40 : decode zy_M_years.2.1 40 = .ok (.getfield 130, 3) := by decide +kernel
theorem d_M_years_43 : decode zy_M_years.2.1 43 = .ok (.ireturn, 1) := by decide +kernel
theorem d_X_back_0 : decode zy_X_back.2.1 0 = .ok (.aload_n 0, 1) := by decide +kernel
theorem d_X_back_1 : decode zy_X_back.2.1 1 = .ok (.getfield 69, 3) := by decide +kernel
theorem d_X_back_4 : decode zy_X_back.2.1 4 = .ok (.ifCond .ne (6), 3) := by decide +kernel
theorem d_X_back_7 : decode zy_X_back.2.1 7 = .ok (.bipush (-3), 2) := by decide +kernel
theorem d_X_back_9 : decode zy_X_back.2.1 9 = .ok (.ireturn, 1) := by decide +kernel
theorem d_X_back_10 : decode zy_X_back.2.1 10 = .ok (.iconst 0, 1) := by decide +kernel
theorem d_X_back_11 : decode zy_X_back.2.1 11 = .ok (.istore_n 1, 1) := by decide +kernel
theorem d_X_back_12 : decode zy_X_back.2.1 12 = .ok (.iload_n 1, 1) := by decide +kernel
theorem d_X_back_13 : decode zy_X_back.2.1 13 = .ok (.aload_n 0, 1) := by decide +kernel
theorem d_X_back_14 : decode zy_X_back.2.1 14 = .ok (.getfield 79, 3) := by decide +kernel
theorem d_X_back_17 : decode zy_X_back.2.1 17 = .ok (.if_icmp .ge (18), 3) := by decide +kernel
theorem d_X_back_20 : decode zy_X_back.2.1 20 = .ok (.aload_n 0, 1) := by decide +kernel
theorem d_X_back_21 : decode zy_X_back.2.1 21 = .ok (.getfield 18, 3) := by decide +kernel
theorem d_X_back_24 : decode zy_X_back.2.1 24 = .ok (.iload_n 1, 1) := by decide +kernel
theorem d_X_back_25 : decode zy_X_back.2.1 25 = .ok (.aaload, 1) := by decide +kernel
theorem d_X_back_26 : decode zy_X_back.2.1 26 = .ok (.invokevirtual 295, 3) := by decide +kernel
theorem d_X_back_29 : decode zy_X_back.2.1 29 = .ok (.iinc 1 1, 3) := by decide +kernel
theorem d_X_back_32 : decode zy_X_back.2.1 32 = .ok (.goto (-20), 3) := by decide +kernel
theorem d_X_back_35 : decode zy_X_back.2.1 35 = .ok (.aload_n 0, 1) := by decide +kernel
theorem d_X_back_36 : decode zy_X_back.2.1 36 = .ok (.getfield 10, 3) := by decide +kernel
theorem d_X_back_39 : decode zy_X_back.2.1 39 = .ok (.aload_n 0, 1) := by decide +kernel
theorem d_X_back_40 : decode zy_X_back.2.1 40 = .ok (.getfield 73, 3) := by decide +kernel
theorem d_X_back_43 : decode zy_X_back.2.1 43 = .ok (.putfield 126, 3) := by decide +kernel
theorem d_X_back_46 : decode zy_X_back.2.1 46 = .ok (.aload_n 0, 1) := by decide +kernel
theorem d_X_back_47 : decode zy_X_back.2.1 47 = .ok (.aload_n 0, 1) := by decide +kernel
theorem d_X_back_48 : decode zy_X_back.2.1 48 = .ok (.getfield 76, 3) := by decide +kernel
theorem d_X_back_51 : decode zy_X_back.2.1 51 = .ok (.putfield 35, 3) := by decide +kernel
theorem d_X_back_54 : decode zy_X_back.2.1 54 = .ok (.aload_n 0, 1) := by decide +kernel
theorem d_X_back_55 : decode zy_X_back.2.1 55 = .ok (.getfield 10, 3) := by decide +kernel
theorem d_X_back_58 : decode zy_X_back.2.1 58 = .ok (.getfield 126, 3) := by decide +kernel
theorem d_X_back_61 : decode zy_X_back.2.1 61 = .ok (.ireturn, 1) := by decide +kernel
theorem d_X_cell_0 : decode zy_X_cell.2.1 0 = .ok (.iload_n 1, 1) := by decide +kernel
theorem d_X_cell_1 : decode zy_X_cell.2.1 1 = .ok (.invokestatic 277, 3) := by decide +kernel
theorem d_X_cell_4 : decode zy_X_cell.2.1 4 = .ok (.ifCond .ne (6), 3) := by decide +kernel
theorem d_X_cell_7 : decode zy_X_cell.2.1 7 = .ok (.bipush (-2), 2) := by decide +kernel
theorem d_X_cell_9 : decode zy_X_cell.2.1 9 = .ok (.ireturn, 1) := by decide +kernel
theorem d_X_cell_10 : decode zy_X_cell.2.1 10 = .ok (.aload_n 0, 1) := by decide +kernel
theorem d_X_cell_11 : decode zy_X_cell.2.1 11 = .ok (.getfield 65, 3) := by decide +kernel
theorem d_X_cell_14 : decode zy_X_cell.2.1 14 = .ok (.iload_n 1, 1) := by decide +kernel
theorem d_X_cell_15 : decode zy_X_cell.2.1 15 = .ok (.aaload, 1) := by decide +kernel
theorem d_X_cell_16 : decode zy_X_cell.2.1 16 = .ok (.astore 4, 2) := by decide +kernel
theorem d_X_cell_18 : decode zy_X_cell.2.1 18 = .ok (.aload 4, 2) := by decide +kernel
theorem d_X_cell_20 : decode zy_X_cell.2.1 20 = .ok (.invokevirtual 280, 3) := by decide +kernel
theorem d_X_cell_23 : decode zy_X_cell.2.1 23 = .ok (.ifCond .eq (6), 3) := by decide +kernel
theorem d_X_cell_26 : decode zy_X_cell.2.1 26 = .ok (.bipush (-11), 2) := by decide +kernel
theorem d_X_cell_28 : decode zy_X_cell.2.1 28 = .ok (.ireturn, 1) := by decide +kernel
theorem d_X_cell_29 : decode zy_X_cell.2.1 29 = .ok (.aload 4, 2) := by decide +kernel
theorem d_X_cell_31 : decode zy_X_cell.2.1 31 = .ok (.iload_n 2, 1) := by decide +kernel
theorem d_X_cell_32 : decode zy_X_cell.2.1 32 = .ok (.invokevirtual 312, 3) := by decide +kernel
theorem d_X_cell_35 : decode zy_X_cell.2.1 35 = .ok (.ifCond .ne (6), 3) := by decide +kernel
theorem d_X_cell_38 : decode zy_X_cell.2.1 38 = .ok (.bipush (-12), 2) := by decide +kernel
theorem d_X_cell_40 : decode zy_X_cell.2.1 40 = .ok (.ireturn, 1) := by decide +kernel
theorem d_X_cell_41 : decode zy_X_cell.2.1 41 = .ok (.aload 4, 2) := by decide +kernel
theorem d_X_cell_43 : decode zy_X_cell.2.1 43 = .ok (.iload_n 2, 1) := by decide +kernel
theorem d_X_cell_44 : decode zy_X_cell.2.1 44 = .ok (.iload_n 3, 1) := by decide +kernel
theorem d_X_cell_45 : decode zy_X_cell.2.1 45 = .ok (.invokevirtual 313, 3) := by decide +kernel
theorem d_X_cell_48 : decode zy_X_cell.2.1 48 = .ok (.iconst 1, 1) := by decide +kernel
theorem d_X_cell_49 : decode zy_X_cell.2.1 49 = .ok (.ireturn, 1) := by decide +kernel
theorem d_X_count_0 : decode zy_X_count.2.1 0 = .ok (.iload_n 1, 1) := by decide +kernel
theorem d_X_count_1 : decode zy_X_count.2.1 1 = .ok (.tableswitch (102) (0) (7) #[47, 55, 60, 68, 73, 81, 86, 97], 47) := by decide +kernel
theorem d_X_count_48 : decode zy_X_count.2.1 48 = .ok (.aload_n 0, 1) := by decide +kernel
theorem d_X_count_49 : decode zy_X_count.2.1 49 = .ok (.getfield 10, 3) := by decide +kernel
theorem d_X_count_52 : decode zy_X_count.2.1 52 = .ok (.getfield 254, 3) := by decide +kernel
theorem d_X_count_55 : decode zy_X_count.2.1 55 = .ok (.ireturn, 1) := by decide +kernel
theorem d_X_count_56 : decode zy_X_count.2.1 56 = .ok (.aload_n 0, 1) := by decide +kernel
theorem d_X_count_57 : decode zy_X_count.2.1 57 = .ok (.getfield 22, 3) := by decide +kernel
theorem d_X_count_60 : decode zy_X_count.2.1 60 = .ok (.ireturn, 1) := by decide +kernel
theorem d_X_count_61 : decode zy_X_count.2.1 61 = .ok (.aload_n 0, 1) := by decide +kernel
theorem d_X_count_62 : decode zy_X_count.2.1 62 = .ok (.getfield 10, 3) := by decide +kernel
theorem d_X_count_65 : decode zy_X_count.2.1 65 = .ok (.getfield 126, 3) := by decide +kernel
theorem d_X_count_68 : decode zy_X_count.2.1 68 = .ok (.ireturn, 1) := by decide +kernel
theorem d_X_count_69 : decode zy_X_count.2.1 69 = .ok (.aload_n 0, 1) := by decide +kernel
theorem d_X_count_70 : decode zy_X_count.2.1 70 = .ok (.getfield 32, 3) := by decide +kernel
theorem d_X_count_73 : decode zy_X_count.2.1 73 = .ok (.ireturn, 1) := by decide +kernel
theorem d_X_count_74 : decode zy_X_count.2.1 74 = .ok (.aload_n 0, 1) := by decide +kernel
theorem d_X_count_75 : decode zy_X_count.2.1 75 = .ok (.getfield 90, 3) := by decide +kernel
theorem d_X_count_78 : decode zy_X_count.2.1 78 = .ok (.getfield 181, 3) := by decide +kernel
theorem d_X_count_81 : decode zy_X_count.2.1 81 = .ok (.ireturn, 1) := by decide +kernel
theorem d_X_count_82 : decode zy_X_count.2.1 82 = .ok (.aload_n 0, 1) := by decide +kernel
theorem d_X_count_83 : decode zy_X_count.2.1 83 = .ok (.getfield 35, 3) := by decide +kernel
theorem d_X_count_86 : decode zy_X_count.2.1 86 = .ok (.ireturn, 1) := by decide +kernel
theorem d_X_count_87 : decode zy_X_count.2.1 87 = .ok (.aload_n 0, 1) := by decide +kernel
theorem d_X_count_88 : decode zy_X_count.2.1 88 = .ok (.getfield 10, 3) := by decide +kernel
theorem d_X_count_91 : decode zy_X_count.2.1 91 = .ok (.getfield 298, 3) := by decide +kernel
theorem d_X_count_94 : decode zy_X_count.2.1 94 = .ok (.invokestatic 301, 3) := by decide +kernel
theorem d_X_count_97 : decode zy_X_count.2.1 97 = .ok (.ireturn, 1) := by decide +kernel
theorem d_X_count_98 : decode zy_X_count.2.1 98 = .ok (.aload_n 0, 1) := by decide +kernel
theorem d_X_count_99 : decode zy_X_count.2.1 99 = .ok (.invokevirtual 306, 3) := by decide +kernel
theorem d_X_count_102 : decode zy_X_count.2.1 102 = .ok (.ireturn, 1) := by decide +kernel
theorem d_X_count_103 : decode zy_X_count.2.1 103 = .ok (.bipush (-2), 2) := by decide +kernel
theorem d_X_count_105 : decode zy_X_count.2.1 105 = .ok (.ireturn, 1) := by decide +kernel
theorem d_X_image_0 : decode zy_X_image.2.1 0 = .ok (.iconst 0, 1) := by decide +kernel
theorem d_X_image_1 : decode zy_X_image.2.1 1 = .ok (.istore_n 1, 1) := by decide +kernel
theorem d_X_image_2 : decode zy_X_image.2.1 2 = .ok (.iload_n 1, 1) := by decide +kernel
theorem d_X_image_3 : decode zy_X_image.2.1 3 = .ok (.aload_n 0, 1) := by decide +kernel
theorem d_X_image_4 : decode zy_X_image.2.1 4 = .ok (.getfield 22, 3) := by decide +kernel
theorem d_X_image_7 : decode zy_X_image.2.1 7 = .ok (.if_icmp .ge (18), 3) := by decide +kernel
theorem d_X_image_10 : decode zy_X_image.2.1 10 = .ok (.aload_n 0, 1) := by decide +kernel
theorem d_X_image_11 : decode zy_X_image.2.1 11 = .ok (.getfield 18, 3) := by decide +kernel
theorem d_X_image_14 : decode zy_X_image.2.1 14 = .ok (.iload_n 1, 1) := by decide +kernel
theorem d_X_image_15 : decode zy_X_image.2.1 15 = .ok (.aaload, 1) := by decide +kernel
theorem d_X_image_16 : decode zy_X_image.2.1 16 = .ok (.invokevirtual 292, 3) := by decide +kernel
theorem d_X_image_19 : decode zy_X_image.2.1 19 = .ok (.iinc 1 1, 3) := by decide +kernel
theorem d_X_image_22 : decode zy_X_image.2.1 22 = .ok (.goto (-20), 3) := by decide +kernel
theorem d_X_image_25 : decode zy_X_image.2.1 25 = .ok (.aload_n 0, 1) := by decide +kernel
theorem d_X_image_26 : decode zy_X_image.2.1 26 = .ok (.iconst 1, 1) := by decide +kernel
theorem d_X_image_27 : decode zy_X_image.2.1 27 = .ok (.putfield 69, 3) := by decide +kernel
theorem d_X_image_30 : decode zy_X_image.2.1 30 = .ok (.aload_n 0, 1) := by decide +kernel
theorem d_X_image_31 : decode zy_X_image.2.1 31 = .ok (.aload_n 0, 1) := by decide +kernel
theorem d_X_image_32 : decode zy_X_image.2.1 32 = .ok (.getfield 10, 3) := by decide +kernel
theorem d_X_image_35 : decode zy_X_image.2.1 35 = .ok (.getfield 126, 3) := by decide +kernel
theorem d_X_image_38 : decode zy_X_image.2.1 38 = .ok (.putfield 73, 3) := by decide +kernel
theorem d_X_image_41 : decode zy_X_image.2.1 41 = .ok (.aload_n 0, 1) := by decide +kernel
theorem d_X_image_42 : decode zy_X_image.2.1 42 = .ok (.aload_n 0, 1) := by decide +kernel
theorem d_X_image_43 : decode zy_X_image.2.1 43 = .ok (.getfield 35, 3) := by decide +kernel
theorem d_X_image_46 : decode zy_X_image.2.1 46 = .ok (.putfield 76, 3) := by decide +kernel
theorem d_X_image_49 : decode zy_X_image.2.1 49 = .ok (.aload_n 0, 1) := by decide +kernel
theorem d_X_image_50 : decode zy_X_image.2.1 50 = .ok (.aload_n 0, 1) := by decide +kernel
theorem d_X_image_51 : decode zy_X_image.2.1 51 = .ok (.getfield 22, 3) := by decide +kernel
theorem d_X_image_54 : decode zy_X_image.2.1 54 = .ok (.putfield 79, 3) := by decide +kernel
theorem d_X_image_57 : decode zy_X_image.2.1 57 = .ok (.aload_n 0, 1) := by decide +kernel
theorem d_X_image_58 : decode zy_X_image.2.1 58 = .ok (.getfield 10, 3) := by decide +kernel
theorem d_X_image_61 : decode zy_X_image.2.1 61 = .ok (.getfield 126, 3) := by decide +kernel
theorem d_X_image_64 : decode zy_X_image.2.1 64 = .ok (.ireturn, 1) := by decide +kernel
theorem d_X_people_0 : decode zy_X_people.2.1 0 = .ok (.iload_n 1, 1) := by decide +kernel
theorem d_X_people_1 : decode zy_X_people.2.1 1 = .ok (.invokestatic 277, 3) := by decide +kernel
theorem d_X_people_4 : decode zy_X_people.2.1 4 = .ok (.ifCond .eq (24), 3) := by decide +kernel
theorem d_X_people_7 : decode zy_X_people.2.1 7 = .ok (.iload_n 2, 1) := by decide +kernel
theorem d_X_people_8 : decode zy_X_people.2.1 8 = .ok (.ifCond .lt (20), 3) := by decide +kernel
theorem d_X_people_11 : decode zy_X_people.2.1 11 = .ok (.iload_n 2, 1) := by decide +kernel
theorem d_X_people_12 : decode zy_X_people.2.1 12 = .ok (.iconst 2, 1) := by decide +kernel
theorem d_X_people_13 : decode zy_X_people.2.1 13 = .ok (.if_icmp .gt (15), 3) := by decide +kernel
theorem d_X_people_16 : decode zy_X_people.2.1 16 = .ok (.iload 4, 2) := by decide +kernel
theorem d_X_people_18 : decode zy_X_people.2.1 18 = .ok (.ifCond .lt (10), 3) := by decide +kernel
theorem d_X_people_21 : decode zy_X_people.2.1 21 = .ok (.iload 4, 2) := by decide +kernel
theorem d_X_people_23 : decode zy_X_people.2.1 23 = .ok (.bipush 8, 2) := by decide +kernel
theorem d_X_people_25 : decode zy_X_people.2.1 25 = .ok (.if_icmp .le (6), 3) := by decide +kernel
theorem d_X_people_28 : decode zy_X_people.2.1 28 = .ok (.bipush (-2), 2) := by decide +kernel
theorem d_X_people_30 : decode zy_X_people.2.1 30 = .ok (.ireturn, 1) := by decide +kernel
theorem d_X_people_31 : decode zy_X_people.2.1 31 = .ok (.aload_n 0, 1) := by decide +kernel
theorem d_X_people_32 : decode zy_X_people.2.1 32 = .ok (.getfield 65, 3) := by decide +kernel
theorem d_X_people_35 : decode zy_X_people.2.1 35 = .ok (.iload_n 1, 1) := by decide +kernel
theorem d_X_people_36 : decode zy_X_people.2.1 36 = .ok (.aaload, 1) := by decide +kernel
theorem d_X_people_37 : decode zy_X_people.2.1 37 = .ok (.astore 5, 2) := by decide +kernel
theorem d_X_people_39 : decode zy_X_people.2.1 39 = .ok (.aload 5, 2) := by decide +kernel
theorem d_X_people_41 : decode zy_X_people.2.1 41 = .ok (.invokevirtual 280, 3) := by decide +kernel
theorem d_X_people_44 : decode zy_X_people.2.1 44 = .ok (.ifCond .ne (15), 3) := by decide +kernel
theorem d_X_people_47 : decode zy_X_people.2.1 47 = .ok (.aload 5, 2) := by decide +kernel
theorem d_X_people_49 : decode zy_X_people.2.1 49 = .ok (.getfield 316, 3) := by decide +kernel
theorem d_X_people_52 : decode zy_X_people.2.1 52 = .ok (.iload_n 2, 1) := by decide +kernel
theorem d_X_people_53 : decode zy_X_people.2.1 53 = .ok (.if_icmp .eq (6), 3) := by decide +kernel
theorem d_X_people_56 : decode zy_X_people.2.1 56 = .ok (.bipush (-13), 2) := by decide +kernel
theorem d_X_people_58 : decode zy_X_people.2.1 58 = .ok (.ireturn, 1) := by decide +kernel
theorem d_X_people_59 : decode zy_X_people.2.1 59 = .ok (.aload 5, 2) := by decide +kernel
theorem d_X_people_61 : decode zy_X_people.2.1 61 = .ok (.invokevirtual 280, 3) := by decide +kernel
theorem d_X_people_64 : decode zy_X_people.2.1 64 = .ok (.ifCond .eq (6), 3) := by decide +kernel
theorem d_X_people_67 : decode zy_X_people.2.1 67 = .ok (.bipush (-11), 2) := by decide +kernel
theorem d_X_people_69 : decode zy_X_people.2.1 69 = .ok (.ireturn, 1) := by decide +kernel
theorem d_X_people_70 : decode zy_X_people.2.1 70 = .ok (.iconst 0, 1) := by decide +kernel
theorem d_X_people_71 : decode zy_X_people.2.1 71 = .ok (.istore 6, 2) := by decide +kernel
theorem d_X_people_73 : decode zy_X_people.2.1 73 = .ok (.iload_n 3, 1) := by decide +kernel
theorem d_X_people_74 : decode zy_X_people.2.1 74 = .ok (.istore 7, 2) := by decide +kernel
theorem d_X_people_76 : decode zy_X_people.2.1 76 = .ok (.iconst 0, 1) := by decide +kernel
theorem d_X_people_77 : decode zy_X_people.2.1 77 = .ok (.istore 8, 2) := by decide +kernel
theorem d_X_people_79 : decode zy_X_people.2.1 79 = .ok (.iload 8, 2) := by decide +kernel
theorem d_X_people_81 : decode zy_X_people.2.1 81 = .ok (.iload 4, 2) := by decide +kernel
theorem d_X_people_83 : decode zy_X_people.2.1 83 = .ok (.if_icmp .ge (54), 3) := by decide +kernel
theorem d_X_people_86 : decode zy_X_people.2.1 86 = .ok (.aload 5, 2) := by decide +kernel
theorem d_X_people_88 : decode zy_X_people.2.1 88 = .ok (.iload 7, 2) := by decide +kernel
theorem d_X_people_90 : decode zy_X_people.2.1 90 = .ok (.iconst 2, 1) := by decide +kernel
theorem d_X_people_91 : decode zy_X_people.2.1 91 = .ok (.invokevirtual 319, 3) := by decide +kernel
theorem d_X_people_94 : decode zy_X_people.2.1 94 = .ok (.ifCond .ne (6), 3) := by decide +kernel
theorem d_X_people_97 : decode zy_X_people.2.1 97 = .ok (.bipush (-12), 2) := by decide +kernel
theorem d_X_people_99 : decode zy_X_people.2.1 99 = .ok (.ireturn, 1) := by decide +kernel
theorem d_X_people_100 : decode zy_X_people.2.1 100 = .ok (.aload_n 0, 1) := by decide +kernel
theorem d_X_people_101 : decode zy_X_people.2.1 101 = .ok (.aload 5, 2) := by decide +kernel
theorem d_X_people_103 : decode zy_X_people.2.1 103 = .ok (.getfield 285, 3) := by decide +kernel
theorem d_X_people_106 : decode zy_X_people.2.1 106 = .ok (.iload 7, 2) := by decide +kernel
theorem d_X_people_108 : decode zy_X_people.2.1 108 = .ok (.iaload, 1) := by decide +kernel
theorem d_X_people_109 : decode zy_X_people.2.1 109 = .ok (.aload 5, 2) := by decide +kernel
theorem d_X_people_111 : decode zy_X_people.2.1 111 = .ok (.getfield 285, 3) := by decide +kernel
theorem d_X_people_114 : decode zy_X_people.2.1 114 = .ok (.iload 7, 2) := by decide +kernel
theorem d_X_people_116 : decode zy_X_people.2.1 116 = .ok (.iconst 1, 1) := by decide +kernel
theorem d_X_people_117 : decode zy_X_people.2.1 117 = .ok (.iadd, 1) := by decide +kernel
theorem d_X_people_118 : decode zy_X_people.2.1 118 = .ok (.iaload, 1) := by decide +kernel
theorem d_X_people_119 : decode zy_X_people.2.1 119 = .ok (.invokevirtual 122, 3) := by decide +kernel
theorem d_X_people_122 : decode zy_X_people.2.1 122 = .ok (.ifCond .lt (6), 3) := by decide +kernel
theorem d_X_people_125 : decode zy_X_people.2.1 125 = .ok (.iinc 6 1, 3) := by decide +kernel
theorem d_X_people_128 : decode zy_X_people.2.1 128 = .ok (.iinc 7 2, 3) := by decide +kernel
theorem d_X_people_131 : decode zy_X_people.2.1 131 = .ok (.iinc 8 1, 3) := by decide +kernel
theorem d_X_people_134 : decode zy_X_people.2.1 134 = .ok (.goto (-55), 3) := by decide +kernel
theorem d_X_people_137 : decode zy_X_people.2.1 137 = .ok (.iload 6, 2) := by decide +kernel
theorem d_X_people_139 : decode zy_X_people.2.1 139 = .ok (.ireturn, 1) := by decide +kernel
theorem d_X_person_0 : decode zy_X_person.2.1 0 = .ok (.aload_n 0, 1) := by decide +kernel
theorem d_X_person_1 : decode zy_X_person.2.1 1 = .ok (.iload_n 1, 1) := by decide +kernel
theorem d_X_person_2 : decode zy_X_person.2.1 2 = .ok (.iload_n 2, 1) := by decide +kernel
theorem d_X_person_3 : decode zy_X_person.2.1 3 = .ok (.invokevirtual 122, 3) := by decide +kernel
theorem d_X_person_6 : decode zy_X_person.2.1 6 = .ok (.ireturn, 1) := by decide +kernel
theorem d_X_sheet_0 : decode zy_X_sheet.2.1 0 = .ok (.iload_n 1, 1) := by decide +kernel
theorem d_X_sheet_1 : decode zy_X_sheet.2.1 1 = .ok (.invokestatic 277, 3) := by decide +kernel
theorem d_X_sheet_4 : decode zy_X_sheet.2.1 4 = .ok (.ifCond .eq (13), 3) := by decide +kernel
theorem d_X_sheet_7 : decode zy_X_sheet.2.1 7 = .ok (.iload_n 2, 1) := by decide +kernel
theorem d_X_sheet_8 : decode zy_X_sheet.2.1 8 = .ok (.iconst (-1), 1) := by decide +kernel
theorem d_X_sheet_9 : decode zy_X_sheet.2.1 9 = .ok (.if_icmp .lt (8), 3) := by decide +kernel
theorem d_X_sheet_12 : decode zy_X_sheet.2.1 12 = .ok (.iload_n 2, 1) := by decide +kernel
theorem d_X_sheet_13 : decode zy_X_sheet.2.1 13 = .ok (.iconst 2, 1) := by decide +kernel
theorem d_X_sheet_14 : decode zy_X_sheet.2.1 14 = .ok (.if_icmp .le (6), 3) := by decide +kernel
theorem d_X_sheet_17 : decode zy_X_sheet.2.1 17 = .ok (.bipush (-2), 2) := by decide +kernel
theorem d_X_sheet_19 : decode zy_X_sheet.2.1 19 = .ok (.ireturn, 1) := by decide +kernel
theorem d_X_sheet_20 : decode zy_X_sheet.2.1 20 = .ok (.iload_n 2, 1) := by decide +kernel
theorem d_X_sheet_21 : decode zy_X_sheet.2.1 21 = .ok (.iconst (-1), 1) := by decide +kernel
theorem d_X_sheet_22 : decode zy_X_sheet.2.1 22 = .ok (.if_icmp .ne (16), 3) := by decide +kernel
theorem d_X_sheet_25 : decode zy_X_sheet.2.1 25 = .ok (.aload_n 0, 1) := by decide +kernel
theorem d_X_sheet_26 : decode zy_X_sheet.2.1 26 = .ok (.getfield 65, 3) := by decide +kernel
theorem d_X_sheet_29 : decode zy_X_sheet.2.1 29 = .ok (.iload_n 1, 1) := by decide +kernel
theorem d_X_sheet_30 : decode zy_X_sheet.2.1 30 = .ok (.aaload, 1) := by decide +kernel
theorem d_X_sheet_31 : decode zy_X_sheet.2.1 31 = .ok (.iload_n 2, 1) := by decide +kernel
theorem d_X_sheet_32 : decode zy_X_sheet.2.1 32 = .ok (.iconst 0, 1) := by decide +kernel
theorem d_X_sheet_33 : decode zy_X_sheet.2.1 33 = .ok (.invokevirtual 309, 3) := by decide +kernel
theorem d_X_sheet_36 : decode zy_X_sheet.2.1 36 = .ok (.iconst 1, 1) := by decide +kernel
theorem d_X_sheet_37 : decode zy_X_sheet.2.1 37 = .ok (.ireturn, 1) := by decide +kernel
theorem d_X_sheet_38 : decode zy_X_sheet.2.1 38 = .ok (.iload_n 3, 1) := by decide +kernel
theorem d_X_sheet_39 : decode zy_X_sheet.2.1 39 = .ok (.bipush 40, 2) := by decide +kernel
theorem d_X_sheet_41 : decode zy_X_sheet.2.1 41 = .ok (.if_icmp .le (6), 3) := by decide +kernel
theorem d_X_sheet_44 : decode zy_X_sheet.2.1 44 = .ok (.bipush (-2), 2) := by decide +kernel
theorem d_X_sheet_46 : decode zy_X_sheet.2.1 46 = .ok (.ireturn, 1) := by decide +kernel
theorem d_X_sheet_47 : decode zy_X_sheet.2.1 47 = .ok (.iload_n 3, 1) := by decide +kernel
theorem d_X_sheet_48 : decode zy_X_sheet.2.1 48 = .ok (.ifCond .ge (6), 3) := by decide +kernel
theorem d_X_sheet_51 : decode zy_X_sheet.2.1 51 = .ok (.bipush (-14), 2) := by decide +kernel
theorem d_X_sheet_53 : decode zy_X_sheet.2.1 53 = .ok (.ireturn, 1) := by decide +kernel
theorem d_X_sheet_54 : decode zy_X_sheet.2.1 54 = .ok (.aload_n 0, 1) := by decide +kernel
theorem d_X_sheet_55 : decode zy_X_sheet.2.1 55 = .ok (.getfield 65, 3) := by decide +kernel
theorem d_X_sheet_58 : decode zy_X_sheet.2.1 58 = .ok (.iload_n 1, 1) := by decide +kernel
theorem d_X_sheet_59 : decode zy_X_sheet.2.1 59 = .ok (.aaload, 1) := by decide +kernel
theorem d_X_sheet_60 : decode zy_X_sheet.2.1 60 = .ok (.iload_n 2, 1) := by decide +kernel
theorem d_X_sheet_61 : decode zy_X_sheet.2.1 61 = .ok (.iload_n 3, 1) := by decide +kernel
theorem d_X_sheet_62 : decode zy_X_sheet.2.1 62 = .ok (.invokevirtual 309, 3) := by decide +kernel
theorem d_X_sheet_65 : decode zy_X_sheet.2.1 65 = .ok (.iconst 1, 1) := by decide +kernel
theorem d_X_sheet_66 : decode zy_X_sheet.2.1 66 = .ok (.ireturn, 1) := by decide +kernel
theorem d_X_valueOf_0 : decode zy_X_valueOf.2.1 0 = .ok (.aload_n 2, 1) := by decide +kernel
theorem d_X_valueOf_1 : decode zy_X_valueOf.2.1 1 = .ok (.iload_n 3, 1) := by decide +kernel
theorem d_X_valueOf_2 : decode zy_X_valueOf.2.1 2 = .ok (.aload_n 0, 1) := by decide +kernel
theorem d_X_valueOf_3 : decode zy_X_valueOf.2.1 3 = .ok (.getfield 10, 3) := by decide +kernel
theorem d_X_valueOf_6 : decode zy_X_valueOf.2.1 6 = .ok (.aload_n 0, 1) := by decide +kernel
theorem d_X_valueOf_7 : decode zy_X_valueOf.2.1 7 = .ok (.getfield 38, 3) := by decide +kernel
theorem d_X_valueOf_10 : decode zy_X_valueOf.2.1 10 = .ok (.invokevirtual 334, 3) := by decide +kernel
theorem d_X_valueOf_13 : decode zy_X_valueOf.2.1 13 = .ok (.aload_n 0, 1) := by decide +kernel
theorem d_X_valueOf_14 : decode zy_X_valueOf.2.1 14 = .ok (.getfield 28, 3) := by decide +kernel
theorem d_X_valueOf_17 : decode zy_X_valueOf.2.1 17 = .ok (.aload_n 0, 1) := by decide +kernel
theorem d_X_valueOf_18 : decode zy_X_valueOf.2.1 18 = .ok (.getfield 35, 3) := by decide +kernel
theorem d_X_valueOf_21 : decode zy_X_valueOf.2.1 21 = .ok (.aaload, 1) := by decide +kernel
theorem d_X_valueOf_22 : decode zy_X_valueOf.2.1 22 = .ok (.iload_n 1, 1) := by decide +kernel
theorem d_X_valueOf_23 : decode zy_X_valueOf.2.1 23 = .ok (.aload_n 0, 1) := by decide +kernel
theorem d_X_valueOf_24 : decode zy_X_valueOf.2.1 24 = .ok (.getfield 38, 3) := by decide +kernel
theorem d_X_valueOf_27 : decode zy_X_valueOf.2.1 27 = .ok (.invokevirtual 338, 3) := by decide +kernel
theorem d_X_valueOf_30 : decode zy_X_valueOf.2.1 30 = .ok (.ireturn, 1) := by decide +kernel
theorem d_Course_seek_0 : decode zy_Course_seek.2.1 0 = .ok (.aload_n 0, 1) := by decide +kernel
theorem d_Course_seek_1 : decode zy_Course_seek.2.1 1 = .ok (.iconst (-1), 1) := by decide +kernel
theorem d_Course_seek_2 : decode zy_Course_seek.2.1 2 = .ok (.putfield 26, 3) := by decide +kernel
theorem d_Course_seek_5 : decode zy_Course_seek.2.1 5 = .ok (.lload 5, 2) := by decide +kernel
theorem d_Course_seek_7 : decode zy_Course_seek.2.1 7 = .ok (.lconst 0, 1) := by decide +kernel
theorem d_Course_seek_8 : decode zy_Course_seek.2.1 8 = .ok (.lcmp, 1) := by decide +kernel
theorem d_Course_seek_9 : decode zy_Course_seek.2.1 9 = .ok (.ifCond .ne (14), 3) := by decide +kernel
theorem d_Course_seek_12 : decode zy_Course_seek.2.1 12 = .ok (.lload_n 3, 1) := by decide +kernel
theorem d_Course_seek_13 : decode zy_Course_seek.2.1 13 = .ok (.lconst 0, 1) := by decide +kernel
theorem d_Course_seek_14 : decode zy_Course_seek.2.1 14 = .ok (.lcmp, 1) := by decide +kernel
theorem d_Course_seek_15 : decode zy_Course_seek.2.1 15 = .ok (.ifCond .ne (8), 3) := by decide +kernel
theorem d_Course_seek_18 : decode zy_Course_seek.2.1 18 = .ok (.aload_n 0, 1) := by decide +kernel
theorem d_Course_seek_19 : decode zy_Course_seek.2.1 19 = .ok (.lload_n 1, 1) := by decide +kernel
theorem d_Course_seek_20 : decode zy_Course_seek.2.1 20 = .ok (.invokevirtual 35, 3) := by decide +kernel
theorem d_Course_seek_23 : decode zy_Course_seek.2.1 23 = .ok (.lload 5, 2) := by decide +kernel
theorem d_Course_seek_25 : decode zy_Course_seek.2.1 25 = .ok (.lconst 0, 1) := by decide +kernel
theorem d_Course_seek_26 : decode zy_Course_seek.2.1 26 = .ok (.lcmp, 1) := by decide +kernel
theorem d_Course_seek_27 : decode zy_Course_seek.2.1 27 = .ok (.ifCond .ne (17), 3) := by decide +kernel
theorem d_Course_seek_30 : decode zy_Course_seek.2.1 30 = .ok (.aload_n 0, 1) := by decide +kernel
theorem d_Course_seek_31 : decode zy_Course_seek.2.1 31 = .ok (.getfield 26, 3) := by decide +kernel
theorem d_Course_seek_34 : decode zy_Course_seek.2.1 34 = .ok (.iconst (-1), 1) := by decide +kernel
theorem d_Course_seek_35 : decode zy_Course_seek.2.1 35 = .ok (.if_icmp .ne (9), 3) := by decide +kernel
theorem d_Course_seek_38 : decode zy_Course_seek.2.1 38 = .ok (.aload_n 0, 1) := by decide +kernel
theorem d_Course_seek_39 : decode zy_Course_seek.2.1 39 = .ok (.lload_n 1, 1) := by decide +kernel
theorem d_Course_seek_40 : decode zy_Course_seek.2.1 40 = .ok (.lload_n 3, 1) := by decide +kernel
theorem d_Course_seek_41 : decode zy_Course_seek.2.1 41 = .ok (.invokevirtual 39, 3) := by decide +kernel
theorem d_Course_seek_44 : decode zy_Course_seek.2.1 44 = .ok (.return_, 1) := by decide +kernel
theorem d_Cover_bears_0 : decode zy_Cover_bears.2.1 0 = .ok (.iload_n 1, 1) := by decide +kernel
theorem d_Cover_bears_1 : decode zy_Cover_bears.2.1 1 = .ok (.iload_n 2, 1) := by decide +kernel
theorem d_Cover_bears_2 : decode zy_Cover_bears.2.1 2 = .ok (.if_icmp .gt (14), 3) := by decide +kernel
theorem d_Cover_bears_5 : decode zy_Cover_bears.2.1 5 = .ok (.aload_n 0, 1) := by decide +kernel
theorem d_Cover_bears_6 : decode zy_Cover_bears.2.1 6 = .ok (.iload_n 1, 1) := by decide +kernel
theorem d_Cover_bears_7 : decode zy_Cover_bears.2.1 7 = .ok (.iconst 1, 1) := by decide +kernel
theorem d_Cover_bears_8 : decode zy_Cover_bears.2.1 8 = .ok (.invokevirtual 28, 3) := by decide +kernel
theorem d_Cover_bears_11 : decode zy_Cover_bears.2.1 11 = .ok (.lconst 0, 1) := by decide +kernel
theorem d_Cover_bears_12 : decode zy_Cover_bears.2.1 12 = .ok (.lcmp, 1) := by decide +kernel
theorem d_Cover_bears_13 : decode zy_Cover_bears.2.1 13 = .ok (.ifCond .ne (7), 3) := by decide +kernel
theorem d_Cover_bears_16 : decode zy_Cover_bears.2.1 16 = .ok (.iconst 1, 1) := by decide +kernel
theorem d_Cover_bears_17 : decode zy_Cover_bears.2.1 17 = .ok (.goto (4), 3) := by decide +kernel
theorem d_Cover_bears_20 : decode zy_Cover_bears.2.1 20 = .ok (.iconst 0, 1) := by decide +kernel
theorem d_Cover_bears_21 : decode zy_Cover_bears.2.1 21 = .ok (.ireturn, 1) := by decide +kernel
theorem d_Person_recalls_0 : decode zy_Person_recalls.2.1 0 = .ok (.aload_n 0, 1) := by decide +kernel
theorem d_Person_recalls_1 : decode zy_Person_recalls.2.1 1 = .ok (.getfield 27, 3) := by decide +kernel
theorem d_Person_recalls_4 : decode zy_Person_recalls.2.1 4 = .ok (.iload_n 1, 1) := by decide +kernel
theorem d_Person_recalls_5 : decode zy_Person_recalls.2.1 5 = .ok (.iaload, 1) := by decide +kernel
theorem d_Person_recalls_6 : decode zy_Person_recalls.2.1 6 = .ok (.iconst (-1), 1) := by decide +kernel
theorem d_Person_recalls_7 : decode zy_Person_recalls.2.1 7 = .ok (.if_icmp .eq (22), 3) := by decide +kernel
theorem d_Person_recalls_10 : decode zy_Person_recalls.2.1 10 = .ok (.iload_n 2, 1) := by decide +kernel
theorem d_Person_recalls_11 : decode zy_Person_recalls.2.1 11 = .ok (.aload_n 0, 1) := by decide +kernel
theorem d_Person_recalls_12 : decode zy_Person_recalls.2.1 12 = .ok (.getfield 27, 3) := by decide +kernel
theorem d_Person_recalls_15 : decode zy_Person_recalls.2.1 15 = .ok (.iload_n 1, 1) := by decide +kernel
theorem d_Person_recalls_16 : decode zy_Person_recalls.2.1 16 = .ok (.iaload, 1) := by decide +kernel
theorem d_Person_recalls_17 : decode zy_Person_recalls.2.1 17 = .ok (.isub, 1) := by decide +kernel
theorem d_Person_recalls_18 : decode zy_Person_recalls.2.1 18 = .ok (.aload_n 0, 1) := by decide +kernel
theorem d_Person_recalls_19 : decode zy_Person_recalls.2.1 19 = .ok (.invokevirtual 56, 3) := by decide +kernel
theorem d_Person_recalls_22 : decode zy_Person_recalls.2.1 22 = .ok (.if_icmp .gt (7), 3) := by decide +kernel
theorem d_Person_recalls_25 : decode zy_Person_recalls.2.1 25 = .ok (.iconst 1, 1) := by decide +kernel
theorem d_Person_recalls_26 : decode zy_Person_recalls.2.1 26 = .ok (.goto (4), 3) := by decide +kernel
theorem d_Person_recalls_29 : decode zy_Person_recalls.2.1 29 = .ok (.iconst 0, 1) := by decide +kernel
theorem d_Person_recalls_30 : decode zy_Person_recalls.2.1 30 = .ok (.ireturn, 1) := by decide +kernel
theorem d_Plan_layDown_0 : decode zy_Plan_layDown.2.1 0 = .ok (.aload_n 0, 1) := by decide +kernel
theorem d_Plan_layDown_1 : decode zy_Plan_layDown.2.1 1 = .ok (.getfield 22, 3) := by decide +kernel
theorem d_Plan_layDown_4 : decode zy_Plan_layDown.2.1 4 = .ok (.iload_n 1, 1) := by decide +kernel
theorem d_Plan_layDown_5 : decode zy_Plan_layDown.2.1 5 = .ok (.iaload, 1) := by decide +kernel
theorem d_Plan_layDown_6 : decode zy_Plan_layDown.2.1 6 = .ok (.istore_n 2, 1) := by decide +kernel
theorem d_Plan_layDown_7 : decode zy_Plan_layDown.2.1 7 = .ok (.iload_n 2, 1) := by decide +kernel
theorem d_Plan_layDown_8 : decode zy_Plan_layDown.2.1 8 = .ok (.iconst (-1), 1) := by decide +kernel
theorem d_Plan_layDown_9 : decode zy_Plan_layDown.2.1 9 = .ok (.if_icmp .ne (5), 3) := by decide +kernel
theorem d_Plan_layDown_12 : decode zy_Plan_layDown.2.1 12 = .ok (.iconst (-1), 1) := by decide +kernel
theorem d_Plan_layDown_13 : decode zy_Plan_layDown.2.1 13 = .ok (.ireturn, 1) := by decide +kernel
theorem d_Plan_layDown_14 : decode zy_Plan_layDown.2.1 14 = .ok (.iload_n 1, 1) := by decide +kernel
theorem d_Plan_layDown_15 : decode zy_Plan_layDown.2.1 15 = .ok (.istore_n 3, 1) := by decide +kernel
theorem d_Plan_layDown_16 : decode zy_Plan_layDown.2.1 16 = .ok (.iconst 0, 1) := by decide +kernel
theorem d_Plan_layDown_17 : decode zy_Plan_layDown.2.1 17 = .ok (.istore 4, 2) := by decide +kernel
theorem d_Plan_layDown_19 : decode zy_Plan_layDown.2.1 19 = .ok (.iload 4, 2) := by decide +kernel
theorem d_Plan_layDown_21 : decode zy_Plan_layDown.2.1 21 = .ok (.aload_n 0, 1) := by decide +kernel
theorem d_Plan_layDown_22 : decode zy_Plan_layDown.2.1 22 = .ok (.getfield 9, 3) := by decide +kernel
theorem d_Plan_layDown_25 : decode zy_Plan_layDown.2.1 25 = .ok (.if_icmp .ge (48), 3) := by decide +kernel
theorem d_Plan_layDown_28 : decode zy_Plan_layDown.2.1 28 = .ok (.aload_n 0, 1) := by decide +kernel
theorem d_Plan_layDown_29 : decode zy_Plan_layDown.2.1 29 = .ok (.getfield 25, 3) := by decide +kernel
theorem d_Plan_layDown_32 : decode zy_Plan_layDown.2.1 32 = .ok (.iload 4, 2) := by decide +kernel
theorem d_Plan_layDown_34 : decode zy_Plan_layDown.2.1 34 = .ok (.aload_n 0, 1) := by decide +kernel
theorem d_Plan_layDown_35 : decode zy_Plan_layDown.2.1 35 = .ok (.iload 4, 2) := by decide +kernel
theorem d_Plan_layDown_37 : decode zy_Plan_layDown.2.1 37 = .ok (.iload_n 3, 1) := by decide +kernel
theorem d_Plan_layDown_38 : decode zy_Plan_layDown.2.1 38 = .ok (.invokevirtual 47, 3) := by decide +kernel
theorem d_Plan_layDown_41 : decode zy_Plan_layDown.2.1 41 = .ok (.iastore, 1) := by decide +kernel
theorem d_Plan_layDown_42 : decode zy_Plan_layDown.2.1 42 = .ok (.aload_n 0, 1) := by decide +kernel
theorem d_Plan_layDown_43 : decode zy_Plan_layDown.2.1 43 = .ok (.getfield 25, 3) := by decide +kernel
theorem d_Plan_layDown_46 : decode zy_Plan_layDown.2.1 46 = .ok (.iload 4, 2) := by decide +kernel
theorem d_Plan_layDown_48 : decode zy_Plan_layDown.2.1 48 = .ok (.iaload, 1) := by decide +kernel
theorem d_Plan_layDown_49 : decode zy_Plan_layDown.2.1 49 = .ok (.iconst (-1), 1) := by decide +kernel
theorem d_Plan_layDown_50 : decode zy_Plan_layDown.2.1 50 = .ok (.if_icmp .eq (17), 3) := by decide +kernel
theorem d_Plan_layDown_53 : decode zy_Plan_layDown.2.1 53 = .ok (.iload_n 3, 1) := by decide +kernel
theorem d_Plan_layDown_54 : decode zy_Plan_layDown.2.1 54 = .ok (.iconst 1, 1) := by decide +kernel
theorem d_Plan_layDown_55 : decode zy_Plan_layDown.2.1 55 = .ok (.aload_n 0, 1) := by decide +kernel
theorem d_Plan_layDown_56 : decode zy_Plan_layDown.2.1 56 = .ok (.getfield 25, 3) := by decide +kernel
theorem d_Plan_layDown_59 : decode zy_Plan_layDown.2.1 59 = .ok (.iload 4, 2) := by decide +kernel
theorem d_Plan_layDown_61 : decode zy_Plan_layDown.2.1 61 = .ok (.iaload, 1) := by decide +kernel
theorem d_Plan_layDown_62 : decode zy_Plan_layDown.2.1 62 = .ok (.ishl, 1) := by decide +kernel
theorem d_Plan_layDown_63 : decode zy_Plan_layDown.2.1 63 = .ok (.iconst (-1), 1) := by decide +kernel
theorem d_Plan_layDown_64 : decode zy_Plan_layDown.2.1 64 = .ok (.ixor, 1) := by decide +kernel
theorem d_Plan_layDown_65 : decode zy_Plan_layDown.2.1 65 = .ok (.iand, 1) := by decide +kernel
theorem d_Plan_layDown_66 : decode zy_Plan_layDown.2.1 66 = .ok (.istore_n 3, 1) := by decide +kernel
theorem d_Plan_layDown_67 : decode zy_Plan_layDown.2.1 67 = .ok (.iinc 4 1, 3) := by decide +kernel
theorem d_Plan_layDown_70 : decode zy_Plan_layDown.2.1 70 = .ok (.goto (-51), 3) := by decide +kernel
theorem d_Plan_layDown_73 : decode zy_Plan_layDown.2.1 73 = .ok (.iload_n 2, 1) := by decide +kernel
theorem d_Plan_layDown_74 : decode zy_Plan_layDown.2.1 74 = .ok (.ireturn, 1) := by decide +kernel
theorem d_Plan_reckon_0 : decode zy_Plan_reckon.2.1 0 = .ok (.aload_n 0, 1) := by decide +kernel
theorem d_Plan_reckon_1 : decode zy_Plan_reckon.2.1 1 = .ok (.getfield 9, 3) := by decide +kernel
theorem d_Plan_reckon_4 : decode zy_Plan_reckon.2.1 4 = .ok (.istore_n 3, 1) := by decide +kernel
theorem d_Plan_reckon_5 : decode zy_Plan_reckon.2.1 5 = .ok (.iload_n 3, 1) := by decide +kernel
theorem d_Plan_reckon_6 : decode zy_Plan_reckon.2.1 6 = .ok (.ifCond .lt (86), 3) := by decide +kernel
theorem d_Plan_reckon_9 : decode zy_Plan_reckon.2.1 9 = .ok (.iconst 0, 1) := by decide +kernel
theorem d_Plan_reckon_10 : decode zy_Plan_reckon.2.1 10 = .ok (.istore 4, 2) := by decide +kernel
theorem d_Plan_reckon_12 : decode zy_Plan_reckon.2.1 12 = .ok (.iload 4, 2) := by decide +kernel
theorem d_Plan_reckon_14 : decode zy_Plan_reckon.2.1 14 = .ok (.iload_n 1, 1) := by decide +kernel
theorem d_Plan_reckon_15 : decode zy_Plan_reckon.2.1 15 = .ok (.if_icmp .gt (71), 3) := by decide +kernel
theorem d_Plan_reckon_18 : decode zy_Plan_reckon.2.1 18 = .ok (.iload 4, 2) := by decide +kernel
theorem d_Plan_reckon_20 : decode zy_Plan_reckon.2.1 20 = .ok (.sipush 128, 3) := by decide +kernel
theorem d_Plan_reckon_23 : decode zy_Plan_reckon.2.1 23 = .ok (.if_icmp .ge (63), 3) := by decide +kernel
theorem d_Plan_reckon_26 : decode zy_Plan_reckon.2.1 26 = .ok (.iload 4, 2) := by decide +kernel
theorem d_Plan_reckon_28 : decode zy_Plan_reckon.2.1 28 = .ok (.iload_n 1, 1) := by decide +kernel
theorem d_Plan_reckon_29 : decode zy_Plan_reckon.2.1 29 = .ok (.iconst (-1), 1) := by decide +kernel
theorem d_Plan_reckon_30 : decode zy_Plan_reckon.2.1 30 = .ok (.ixor, 1) := by decide +kernel
theorem d_Plan_reckon_31 : decode zy_Plan_reckon.2.1 31 = .ok (.iand, 1) := by decide +kernel
theorem d_Plan_reckon_32 : decode zy_Plan_reckon.2.1 32 = .ok (.ifCond .ne (48), 3) := by decide +kernel
theorem d_Plan_reckon_35 : decode zy_Plan_reckon.2.1 35 = .ok (.iload_n 1, 1) := by decide +kernel
theorem d_Plan_reckon_36 : decode zy_Plan_reckon.2.1 36 = .ok (.iload 4, 2) := by decide +kernel
theorem d_Plan_reckon_38 : decode zy_Plan_reckon.2.1 38 = .ok (.ixor, 1) := by decide +kernel
theorem d_Plan_reckon_39 : decode zy_Plan_reckon.2.1 39 = .ok (.invokestatic 28, 3) := by decide +kernel
theorem d_Plan_reckon_42 : decode zy_Plan_reckon.2.1 42 = .ok (.iload_n 2, 1) := by decide +kernel
theorem d_Plan_reckon_43 : decode zy_Plan_reckon.2.1 43 = .ok (.iload_n 3, 1) := by decide +kernel
theorem d_Plan_reckon_44 : decode zy_Plan_reckon.2.1 44 = .ok (.iadd, 1) := by decide +kernel
theorem d_Plan_reckon_45 : decode zy_Plan_reckon.2.1 45 = .ok (.if_icmp .gt (35), 3) := by decide +kernel
theorem d_Plan_reckon_48 : decode zy_Plan_reckon.2.1 48 = .ok (.aload_n 0, 1) := by decide +kernel
theorem d_Plan_reckon_49 : decode zy_Plan_reckon.2.1 49 = .ok (.getfield 22, 3) := by decide +kernel
theorem d_Plan_reckon_52 : decode zy_Plan_reckon.2.1 52 = .ok (.iload_n 3, 1) := by decide +kernel
theorem d_Plan_reckon_53 : decode zy_Plan_reckon.2.1 53 = .ok (.sipush 128, 3) := by decide +kernel
theorem d_Plan_reckon_56 : decode zy_Plan_reckon.2.1 56 = .ok (.imul, 1) := by decide +kernel
theorem d_Plan_reckon_57 : decode zy_Plan_reckon.2.1 57 = .ok (.iload 4, 2) := by decide +kernel
theorem d_Plan_reckon_59 : decode zy_Plan_reckon.2.1 59 = .ok (.iadd, 1) := by decide +kernel
theorem d_Plan_reckon_60 : decode zy_Plan_reckon.2.1 60 = .ok (.iload_n 3, 1) := by decide +kernel
