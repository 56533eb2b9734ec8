theorem d_M_in_1 : decode zy_M_in.2.1 1 = .ok (.lload_n 2, 1) := by decide +kernel
theorem d_M_in_2 : decode zy_M_in.2.1 2 = .ok (.lcmp, 1) := by decide +kernel
theorem d_M_in_3 : decode zy_M_in.2.1 3 = .ok (.ifCond .lt (14), 3) := by decide +kernel
theorem d_M_in_6 : decode zy_M_in.2.1 6 = .ok (.lload_n 0, 1) := by decide +kernel
theorem d_M_in_7 : decode zy_M_in.2.1 7 = .ok (.lload 4, 2) := by decide +kernel
theorem d_M_in_9 : decode zy_M_in.2.1 9 = .ok (.lcmp, 1) := by decide +kernel
theorem d_M_in_10 : decode zy_M_in.2.1 10 = .ok (.ifCond .gt (7), 3) := by decide +kernel
theorem d_M_in_13 : decode zy_M_in.2.1 13 = .ok (.iconst 1, 1) := by decide +kernel
theorem d_M_in_14 : decode zy_M_in.2.1 14 = .ok (.goto (4), 3) := by decide +kernel
theorem d_M_in_17 : decode zy_M_in.2.1 17 = .ok (.iconst 0, 1) := by decide +kernel
theorem d_M_in_18 : decode zy_M_in.2.1 18 = .ok (.ireturn, 1) := by decide +kernel
theorem d_M_isKey_0 : decode zy_M_isKey.2.1 0 = .ok (.aload_n 0, 1) := by decide +kernel
theorem d_M_isKey_1 : decode zy_M_isKey.2.1 1 = .ok (.getfield 202, 3) := by decide +kernel
theorem d_M_isKey_4 : decode zy_M_isKey.2.1 4 = .ok (.ifCond .ne (23), 3) := by decide +kernel
theorem d_M_isKey_7 : decode zy_M_isKey.2.1 7 = .ok (.aload_n 0, 1) := by decide +kernel
theorem d_M_isKey_8 : decode zy_M_isKey.2.1 8 = .ok (.getfield 183, 3) := by decide +kernel
theorem d_M_isKey_11 : decode zy_M_isKey.2.1 11 = .ok (.iconst 3, 1) := by decide +kernel
theorem d_M_isKey_12 : decode zy_M_isKey.2.1 12 = .ok (.if_icmp .ne (15), 3) := by decide +kernel
theorem d_M_isKey_15 : decode zy_M_isKey.2.1 15 = .ok (.aload_n 0, 1) := by decide +kernel
theorem d_M_isKey_16 : decode zy_M_isKey.2.1 16 = .ok (.getfield 193, 3) := by decide +kernel
theorem d_M_isKey_19 : decode zy_M_isKey.2.1 19 = .ok (.iload_n 1, 1) := by decide +kernel
theorem d_M_isKey_20 : decode zy_M_isKey.2.1 20 = .ok (.if_icmp .ne (7), 3) := by decide +kernel
theorem d_M_isKey_23 : decode zy_M_isKey.2.1 23 = .ok (.iconst 1, 1) := by decide +kernel
theorem d_M_isKey_24 : decode zy_M_isKey.2.1 24 = .ok (.goto (4), 3) := by decide +kernel
theorem d_M_isKey_27 : decode zy_M_isKey.2.1 27 = .ok (.iconst 0, 1) := by decide +kernel
theorem d_M_isKey_28 : decode zy_M_isKey.2.1 28 = .ok (.ireturn, 1) := by decide +kernel
theorem d_M_isLesson_0 : decode zy_M_isLesson.2.1 0 = .ok (.iload_n 1, 1) := by decide +kernel
theorem d_M_isLesson_1 : decode zy_M_isLesson.2.1 1 = .ok (.bipush 10, 2) := by decide +kernel
theorem d_M_isLesson_3 : decode zy_M_isLesson.2.1 3 = .ok (.idiv, 1) := by decide +kernel
theorem d_M_isLesson_4 : decode zy_M_isLesson.2.1 4 = .ok (.istore_n 2, 1) := by decide +kernel
theorem d_M_isLesson_5 : decode zy_M_isLesson.2.1 5 = .ok (.iload_n 1, 1) := by decide +kernel
theorem d_M_isLesson_6 : decode zy_M_isLesson.2.1 6 = .ok (.bipush 10, 2) := by decide +kernel
theorem d_M_isLesson_8 : decode zy_M_isLesson.2.1 8 = .ok (.irem, 1) := by decide +kernel
theorem d_M_isLesson_9 : decode zy_M_isLesson.2.1 9 = .ok (.istore_n 3, 1) := by decide +kernel
theorem d_M_isLesson_10 : decode zy_M_isLesson.2.1 10 = .ok (.iload_n 2, 1) := by decide +kernel
theorem d_M_isLesson_11 : decode zy_M_isLesson.2.1 11 = .ok (.aload_n 0, 1) := by decide +kernel
theorem d_M_isLesson_12 : decode zy_M_isLesson.2.1 12 = .ok (.getfield 113, 3) := by decide +kernel
theorem d_M_isLesson_15 : decode zy_M_isLesson.2.1 15 = .ok (.if_icmp .ge (42), 3) := by decide +kernel
theorem d_M_isLesson_18 : decode zy_M_isLesson.2.1 18 = .ok (.iload_n 3, 1) := by decide +kernel
theorem d_M_isLesson_19 : decode zy_M_isLesson.2.1 19 = .ok (.aload_n 0, 1) := by decide +kernel
theorem d_M_isLesson_20 : decode zy_M_isLesson.2.1 20 = .ok (.getfield 106, 3) := by decide +kernel
theorem d_M_isLesson_23 : decode zy_M_isLesson.2.1 23 = .ok (.if_icmp .ge (34), 3) := by decide +kernel
theorem d_M_isLesson_26 : decode zy_M_isLesson.2.1 26 = .ok (.aload_n 0, 1) := by decide +kernel
theorem d_M_isLesson_27 : decode zy_M_isLesson.2.1 27 = .ok (.getfield 67, 3) := by decide +kernel
theorem d_M_isLesson_30 : decode zy_M_isLesson.2.1 30 = .ok (.iload_n 2, 1) := by decide +kernel
theorem d_M_isLesson_31 : decode zy_M_isLesson.2.1 31 = .ok (.iaload, 1) := by decide +kernel
theorem d_M_isLesson_32 : decode zy_M_isLesson.2.1 32 = .ok (.iload_n 3, 1) := by decide +kernel
theorem d_M_isLesson_33 : decode zy_M_isLesson.2.1 33 = .ok (.ishr, 1) := by decide +kernel
theorem d_M_isLesson_34 : decode zy_M_isLesson.2.1 34 = .ok (.iconst 1, 1) := by decide +kernel
theorem d_M_isLesson_35 : decode zy_M_isLesson.2.1 35 = .ok (.iand, 1) := by decide +kernel
theorem d_M_isLesson_36 : decode zy_M_isLesson.2.1 36 = .ok (.ifCond .ne (21), 3) := by decide +kernel
theorem d_M_isLesson_39 : decode zy_M_isLesson.2.1 39 = .ok (.aload_n 0, 1) := by decide +kernel
theorem d_M_isLesson_40 : decode zy_M_isLesson.2.1 40 = .ok (.getfield 42, 3) := by decide +kernel
theorem d_M_isLesson_43 : decode zy_M_isLesson.2.1 43 = .ok (.bipush 6, 2) := by decide +kernel
theorem d_M_isLesson_45 : decode zy_M_isLesson.2.1 45 = .ok (.iload_n 2, 1) := by decide +kernel
theorem d_M_isLesson_46 : decode zy_M_isLesson.2.1 46 = .ok (.imul, 1) := by decide +kernel
theorem d_M_isLesson_47 : decode zy_M_isLesson.2.1 47 = .ok (.iload_n 3, 1) := by decide +kernel
theorem d_M_isLesson_48 : decode zy_M_isLesson.2.1 48 = .ok (.iadd, 1) := by decide +kernel
theorem d_M_isLesson_49 : decode zy_M_isLesson.2.1 49 = .ok (.baload, 1) := by decide +kernel
theorem d_M_isLesson_50 : decode zy_M_isLesson.2.1 50 = .ok (.ifCond .ne (7), 3) := by decide +kernel
theorem d_M_isLesson_53 : decode zy_M_isLesson.2.1 53 = .ok (.iconst 1, 1) := by decide +kernel
theorem d_M_isLesson_54 : decode zy_M_isLesson.2.1 54 = .ok (.goto (4), 3) := by decide +kernel
theorem d_M_isLesson_57 : decode zy_M_isLesson.2.1 57 = .ok (.iconst 0, 1) := by decide +kernel
theorem d_M_isLesson_58 : decode zy_M_isLesson.2.1 58 = .ok (.ireturn, 1) := by decide +kernel
theorem d_M_isSign_0 : decode zy_M_isSign.2.1 0 = .ok (.aload_n 0, 1) := by decide +kernel
theorem d_M_isSign_1 : decode zy_M_isSign.2.1 1 = .ok (.getfield 202, 3) := by decide +kernel
theorem d_M_isSign_4 : decode zy_M_isSign.2.1 4 = .ok (.ifCond .ne (23), 3) := by decide +kernel
theorem d_M_isSign_7 : decode zy_M_isSign.2.1 7 = .ok (.aload_n 0, 1) := by decide +kernel
theorem d_M_isSign_8 : decode zy_M_isSign.2.1 8 = .ok (.getfield 183, 3) := by decide +kernel
theorem d_M_isSign_11 : decode zy_M_isSign.2.1 11 = .ok (.iconst 4, 1) := by decide +kernel
theorem d_M_isSign_12 : decode zy_M_isSign.2.1 12 = .ok (.if_icmp .ne (15), 3) := by decide +kernel
theorem d_M_isSign_15 : decode zy_M_isSign.2.1 15 = .ok (.aload_n 0, 1) := by decide +kernel
theorem d_M_isSign_16 : decode zy_M_isSign.2.1 16 = .ok (.getfield 193, 3) := by decide +kernel
theorem d_M_isSign_19 : decode zy_M_isSign.2.1 19 = .ok (.iload_n 1, 1) := by decide +kernel
theorem d_M_isSign_20 : decode zy_M_isSign.2.1 20 = .ok (.if_icmp .ne (7), 3) := by decide +kernel
theorem d_M_isSign_23 : decode zy_M_isSign.2.1 23 = .ok (.iconst 1, 1) := by decide +kernel
theorem d_M_isSign_24 : decode zy_M_isSign.2.1 24 = .ok (.goto (4), 3) := by decide +kernel
theorem d_M_isSign_27 : decode zy_M_isSign.2.1 27 = .ok (.iconst 0, 1) := by decide +kernel
theorem d_M_isSign_28 : decode zy_M_isSign.2.1 28 = .ok (.ireturn, 1) := by decide +kernel
theorem d_M_isSignByte_0 : decode zy_M_isSignByte.2.1 0 = .ok (.iload_n 0, 1) := by decide +kernel
theorem d_M_isSignByte_1 : decode zy_M_isSignByte.2.1 1 = .ok (.bipush 40, 2) := by decide +kernel
theorem d_M_isSignByte_3 : decode zy_M_isSignByte.2.1 3 = .ok (.if_icmp .eq (45), 3) := by decide +kernel
theorem d_M_isSignByte_6 : decode zy_M_isSignByte.2.1 6 = .ok (.iload_n 0, 1) := by decide +kernel
theorem d_M_isSignByte_7 : decode zy_M_isSignByte.2.1 7 = .ok (.bipush 41, 2) := by decide +kernel
theorem d_M_isSignByte_9 : decode zy_M_isSignByte.2.1 9 = .ok (.if_icmp .eq (39), 3) := by decide +kernel
theorem d_M_isSignByte_12 : decode zy_M_isSignByte.2.1 12 = .ok (.iload_n 0, 1) := by decide +kernel
theorem d_M_isSignByte_13 : decode zy_M_isSignByte.2.1 13 = .ok (.bipush 59, 2) := by decide +kernel
theorem d_M_isSignByte_15 : decode zy_M_isSignByte.2.1 15 = .ok (.if_icmp .eq (33), 3) := by decide +kernel
theorem d_M_isSignByte_18 : decode zy_M_isSignByte.2.1 18 = .ok (.iload_n 0, 1) := by decide +kernel
theorem d_M_isSignByte_19 : decode zy_M_isSignByte.2.1 19 = .ok (.bipush 43, 2) := by decide +kernel
theorem d_M_isSignByte_21 : decode zy_M_isSignByte.2.1 21 = .ok (.if_icmp .eq (27), 3) := by decide +kernel
theorem d_M_isSignByte_24 : decode zy_M_isSignByte.2.1 24 = .ok (.iload_n 0, 1) := by decide +kernel
theorem d_M_isSignByte_25 : decode zy_M_isSignByte.2.1 25 = .ok (.bipush 45, 2) := by decide +kernel
theorem d_M_isSignByte_27 : decode zy_M_isSignByte.2.1 27 = .ok (.if_icmp .eq (21), 3) := by decide +kernel
theorem d_M_isSignByte_30 : decode zy_M_isSignByte.2.1 30 = .ok (.iload_n 0, 1) := by decide +kernel
theorem d_M_isSignByte_31 : decode zy_M_isSignByte.2.1 31 = .ok (.bipush 42, 2) := by decide +kernel
theorem d_M_isSignByte_33 : decode zy_M_isSignByte.2.1 33 = .ok (.if_icmp .eq (15), 3) := by decide +kernel
theorem d_M_isSignByte_36 : decode zy_M_isSignByte.2.1 36 = .ok (.iload_n 0, 1) := by decide +kernel
theorem d_M_isSignByte_37 : decode zy_M_isSignByte.2.1 37 = .ok (.bipush 60, 2) := by decide +kernel
theorem d_M_isSignByte_39 : decode zy_M_isSignByte.2.1 39 = .ok (.if_icmp .eq (9), 3) := by decide +kernel
theorem d_M_isSignByte_42 : decode zy_M_isSignByte.2.1 42 = .ok (.iload_n 0, 1) := by decide +kernel
theorem d_M_isSignByte_43 : decode zy_M_isSignByte.2.1 43 = .ok (.bipush 61, 2) := by decide +kernel
theorem d_M_isSignByte_45 : decode zy_M_isSignByte.2.1 45 = .ok (.if_icmp .ne (7), 3) := by decide +kernel
theorem d_M_isSignByte_48 : decode zy_M_isSignByte.2.1 48 = .ok (.iconst 1, 1) := by decide +kernel
theorem d_M_isSignByte_49 : decode zy_M_isSignByte.2.1 49 = .ok (.goto (4), 3) := by decide +kernel
theorem d_M_isSignByte_52 : decode zy_M_isSignByte.2.1 52 = .ok (.iconst 0, 1) := by decide +kernel
theorem d_M_isSignByte_53 : decode zy_M_isSignByte.2.1 53 = .ok (.ireturn, 1) := by decide +kernel
theorem d_M_keeps_0 : decode zy_M_keeps.2.1 0 = .ok (.aload_n 0, 1) := by decide +kernel
theorem d_M_keeps_1 : decode zy_M_keeps.2.1 1 = .ok (.getfield 21, 3) := by decide +kernel
theorem d_M_keeps_4 : decode zy_M_keeps.2.1 4 = .ok (.iload_n 1, 1) := by decide +kernel
theorem d_M_keeps_5 : decode zy_M_keeps.2.1 5 = .ok (.iaload, 1) := by decide +kernel
theorem d_M_keeps_6 : decode zy_M_keeps.2.1 6 = .ok (.tableswitch (43) (2) (5) #[30, 39, 30, 41], 30) := by decide +kernel
theorem d_M_keeps_36 : decode zy_M_keeps.2.1 36 = .ok (.iconst 2, 1) := by decide +kernel
theorem d_M_keeps_37 : decode zy_M_keeps.2.1 37 = .ok (.aload_n 0, 1) := by decide +kernel
theorem d_M_keeps_38 : decode zy_M_keeps.2.1 38 = .ok (.getfield 27, 3) := by decide +kernel
theorem d_M_keeps_41 : decode zy_M_keeps.2.1 41 = .ok (.iload_n 1, 1) := by decide +kernel
theorem d_M_keeps_42 : decode zy_M_keeps.2.1 42 = .ok (.iaload, 1) := by decide +kernel
theorem d_M_keeps_43 : decode zy_M_keeps.2.1 43 = .ok (.iadd, 1) := by decide +kernel
theorem d_M_keeps_44 : decode zy_M_keeps.2.1 44 = .ok (.ireturn, 1) := by decide +kernel
theorem d_M_keeps_45 : decode zy_M_keeps.2.1 45 = .ok (.iconst 3, 1) := by decide +kernel
theorem d_M_keeps_46 : decode zy_M_keeps.2.1 46 = .ok (.ireturn, 1) := by decide +kernel
theorem d_M_keeps_47 : decode zy_M_keeps.2.1 47 = .ok (.iconst 1, 1) := by decide +kernel
theorem d_M_keeps_48 : decode zy_M_keeps.2.1 48 = .ok (.ireturn, 1) := by decide +kernel
theorem d_M_keeps_49 : decode zy_M_keeps.2.1 49 = .ok (.iconst 2, 1) := by decide +kernel
theorem d_M_keeps_50 : decode zy_M_keeps.2.1 50 = .ok (.ireturn, 1) := by decide +kernel
theorem d_M_lay_0 : decode zy_M_lay.2.1 0 = .ok (.aload_n 0, 1) := by decide +kernel
theorem d_M_lay_1 : decode zy_M_lay.2.1 1 = .ok (.getfield 48, 3) := by decide +kernel
theorem d_M_lay_4 : decode zy_M_lay.2.1 4 = .ok (.aload_n 0, 1) := by decide +kernel
theorem d_M_lay_5 : decode zy_M_lay.2.1 5 = .ok (.getfield 209, 3) := by decide +kernel
theorem d_M_lay_8 : decode zy_M_lay.2.1 8 = .ok (.iload_n 1, 1) := by decide +kernel
theorem d_M_lay_9 : decode zy_M_lay.2.1 9 = .ok (.iastore, 1) := by decide +kernel
theorem d_M_lay_10 : decode zy_M_lay.2.1 10 = .ok (.aload_n 0, 1) := by decide +kernel
theorem d_M_lay_11 : decode zy_M_lay.2.1 11 = .ok (.dup, 1) := by decide +kernel
theorem d_M_lay_12 : decode zy_M_lay.2.1 12 = .ok (.getfield 209, 3) := by decide +kernel
theorem d_M_lay_15 : decode zy_M_lay.2.1 15 = .ok (.iconst 1, 1) := by decide +kernel
theorem d_M_lay_16 : decode zy_M_lay.2.1 16 = .ok (.iadd, 1) := by decide +kernel
theorem d_M_lay_17 : decode zy_M_lay.2.1 17 = .ok (.putfield 209, 3) := by decide +kernel
theorem d_M_lay_20 : decode zy_M_lay.2.1 20 = .ok (.return_, 1) := by decide +kernel
theorem d_M_learns_0 : decode zy_M_learns.2.1 0 = .ok (.iconst 1, 1) := by decide +kernel
theorem d_M_learns_1 : decode zy_M_learns.2.1 1 = .ok (.iload_n 1, 1) := by decide +kernel
theorem d_M_learns_2 : decode zy_M_learns.2.1 2 = .ok (.bipush 10, 2) := by decide +kernel
theorem d_M_learns_4 : decode zy_M_learns.2.1 4 = .ok (.irem, 1) := by decide +kernel
theorem d_M_learns_5 : decode zy_M_learns.2.1 5 = .ok (.ishl, 1) := by decide +kernel
theorem d_M_learns_6 : decode zy_M_learns.2.1 6 = .ok (.istore_n 3, 1) := by decide +kernel
theorem d_M_learns_7 : decode zy_M_learns.2.1 7 = .ok (.aload_n 0, 1) := by decide +kernel
theorem d_M_learns_8 : decode zy_M_learns.2.1 8 = .ok (.getfield 67, 3) := by decide +kernel
theorem d_M_learns_11 : decode zy_M_learns.2.1 11 = .ok (.iload_n 1, 1) := by decide +kernel
theorem d_M_learns_12 : decode zy_M_learns.2.1 12 = .ok (.bipush 10, 2) := by decide +kernel
theorem d_M_learns_14 : decode zy_M_learns.2.1 14 = .ok (.idiv, 1) := by decide +kernel
theorem d_M_learns_15 : decode zy_M_learns.2.1 15 = .ok (.iload_n 2, 1) := by decide +kernel
theorem d_M_learns_16 : decode zy_M_learns.2.1 16 = .ok (.ifCond .eq (17), 3) := by decide +kernel
theorem d_M_learns_19 : decode zy_M_learns.2.1 19 = .ok (.aload_n 0, 1) := by decide +kernel
theorem d_M_learns_20 : decode zy_M_learns.2.1 20 = .ok (.getfield 67, 3) := by decide +kernel
theorem d_M_learns_23 : decode zy_M_learns.2.1 23 = .ok (.iload_n 1, 1) := by decide +kernel
theorem d_M_learns_24 : decode zy_M_learns.2.1 24 = .ok (.bipush 10, 2) := by decide +kernel
theorem d_M_learns_26 : decode zy_M_learns.2.1 26 = .ok (.idiv, 1) := by decide +kernel
theorem d_M_learns_27 : decode zy_M_learns.2.1 27 = .ok (.iaload, 1) := by decide +kernel
theorem d_M_learns_28 : decode zy_M_learns.2.1 28 = .ok (.iload_n 3, 1) := by decide +kernel
theorem d_M_learns_29 : decode zy_M_learns.2.1 29 = .ok (.ior, 1) := by decide +kernel
theorem d_M_learns_30 : decode zy_M_learns.2.1 30 = .ok (.goto (16), 3) := by decide +kernel
theorem d_M_learns_33 : decode zy_M_learns.2.1 33 = .ok (.aload_n 0, 1) := by decide +kernel
theorem d_M_learns_34 : decode zy_M_learns.2.1 34 = .ok (.getfield 67, 3) := by decide +kernel
theorem d_M_learns_37 : decode zy_M_learns.2.1 37 = .ok (.iload_n 1, 1) := by decide +kernel
theorem d_M_learns_38 : decode zy_M_learns.2.1 38 = .ok (.bipush 10, 2) := by decide +kernel
theorem d_M_learns_40 : decode zy_M_learns.2.1 40 = .ok (.idiv, 1) := by decide +kernel
theorem d_M_learns_41 : decode zy_M_learns.2.1 41 = .ok (.iaload, 1) := by decide +kernel
theorem d_M_learns_42 : decode zy_M_learns.2.1 42 = .ok (.iload_n 3, 1) := by decide +kernel
theorem d_M_learns_43 : decode zy_M_learns.2.1 43 = .ok (.iconst (-1), 1) := by decide +kernel
theorem d_M_learns_44 : decode zy_M_learns.2.1 44 = .ok (.ixor, 1) := by decide +kernel
theorem d_M_learns_45 : decode zy_M_learns.2.1 45 = .ok (.iand, 1) := by decide +kernel
theorem d_M_learns_46 : decode zy_M_learns.2.1 46 = .ok (.iastore, 1) := by decide +kernel
theorem d_M_learns_47 : decode zy_M_learns.2.1 47 = .ok (.return_, 1) := by decide +kernel
theorem d_M_over_0 : decode zy_M_over.2.1 0 = .ok (.iload_n 0, 1) := by decide +kernel
theorem d_M_over_1 : decode zy_M_over.2.1 1 = .ok (.iconst 3, 1) := by decide +kernel
theorem d_M_over_2 : decode zy_M_over.2.1 2 = .ok (.if_icmp .ne (7), 3) := by decide +kernel
theorem d_M_over_5 : decode zy_M_over.2.1 5 = .ok (.iconst 1, 1) := by decide +kernel
theorem d_M_over_6 : decode zy_M_over.2.1 6 = .ok (.goto (13), 3) := by decide +kernel
theorem d_M_over_9 : decode zy_M_over.2.1 9 = .ok (.iload_n 0, 1) := by decide +kernel
theorem d_M_over_10 : decode zy_M_over.2.1 10 = .ok (.iconst 4, 1) := by decide +kernel
theorem d_M_over_11 : decode zy_M_over.2.1 11 = .ok (.if_icmp .ne (7), 3) := by decide +kernel
theorem d_M_over_14 : decode zy_M_over.2.1 14 = .ok (.iconst 2, 1) := by decide +kernel
theorem d_M_over_15 : decode zy_M_over.2.1 15 = .ok (.goto (4), 3) := by decide +kernel
theorem d_M_over_18 : decode zy_M_over.2.1 18 = .ok (.iconst 0, 1) := by decide +kernel
theorem d_M_over_19 : decode zy_M_over.2.1 19 = .ok (.ireturn, 1) := by decide +kernel
theorem d_M_partOf_0 : decode zy_M_partOf.2.1 0 = .ok (.lload_n 0, 1) := by decide +kernel
theorem d_M_partOf_1 : decode zy_M_partOf.2.1 1 = .ok (.lstore 5, 2) := by decide +kernel
theorem d_M_partOf_3 : decode zy_M_partOf.2.1 3 = .ok (.lload_n 2, 1) := by decide +kernel
theorem d_M_partOf_4 : decode zy_M_partOf.2.1 4 = .ok (.lstore 7, 2) := by decide +kernel
theorem d_M_partOf_6 : decode zy_M_partOf.2.1 6 = .ok (.lload 7, 2) := by decide +kernel
theorem d_M_partOf_8 : decode zy_M_partOf.2.1 8 = .ok (.lconst 0, 1) := by decide +kernel
theorem d_M_partOf_9 : decode zy_M_partOf.2.1 9 = .ok (.lcmp, 1) := by decide +kernel
theorem d_M_partOf_10 : decode zy_M_partOf.2.1 10 = .ok (.ifCond .eq (21), 3) := by decide +kernel
theorem d_M_partOf_13 : decode zy_M_partOf.2.1 13 = .ok (.lload 5, 2) := by decide +kernel
theorem d_M_partOf_15 : decode zy_M_partOf.2.1 15 = .ok (.lload 7, 2) := by decide +kernel
theorem d_M_partOf_17 : decode zy_M_partOf.2.1 17 = .ok (.lrem, 1) := by decide +kernel
theorem d_M_partOf_18 : decode zy_M_partOf.2.1 18 = .ok (.lstore 9, 2) := by decide +kernel
theorem d_M_partOf_20 : decode zy_M_partOf.2.1 20 = .ok (.lload 7, 2) := by decide +kernel
theorem d_M_partOf_22 : decode zy_M_partOf.2.1 22 = .ok (.lstore 5, 2) := by decide +kernel
theorem d_M_partOf_24 : decode zy_M_partOf.2.1 24 = .ok (.lload 9, 2) := by decide +kernel
theorem d_M_partOf_26 : decode zy_M_partOf.2.1 26 = .ok (.lstore 7, 2) := by decide +kernel
theorem d_M_partOf_28 : decode zy_M_partOf.2.1 28 = .ok (.goto (-22), 3) := by decide +kernel
theorem d_M_partOf_31 : decode zy_M_partOf.2.1 31 = .ok (.iload 4, 2) := by decide +kernel
theorem d_M_partOf_33 : decode zy_M_partOf.2.1 33 = .ok (.ifCond .ne (10), 3) := by decide +kernel
theorem d_M_partOf_36 : decode zy_M_partOf.2.1 36 = .ok (.lload_n 0, 1) := by decide +kernel
theorem d_M_partOf_37 : decode zy_M_partOf.2.1 37 = .ok (.lload 5, 2) := by decide +kernel
theorem d_M_partOf_39 : decode zy_M_partOf.2.1 39 = .ok (.ldiv, 1) := by decide +kernel
theorem d_M_partOf_40 : decode zy_M_partOf.2.1 40 = .ok (.goto (7), 3) := by decide +kernel
theorem d_M_partOf_43 : decode zy_M_partOf.2.1 43 = .ok (.lload_n 2, 1) := by decide +kernel
theorem d_M_partOf_44 : decode zy_M_partOf.2.1 44 = .ok (.lload 5, 2) := by decide +kernel
theorem d_M_partOf_46 : decode zy_M_partOf.2.1 46 = .ok (.ldiv, 1) := by decide +kernel
theorem d_M_partOf_47 : decode zy_M_partOf.2.1 47 = .ok (.lreturn, 1) := by decide +kernel
theorem d_M_reckon_0 : decode zy_M_reckon.2.1 0 = .ok (.iload_n 0, 1) := by decide +kernel
theorem d_M_reckon_1 : decode zy_M_reckon.2.1 1 = .ok (.lookupswitch (107) #[(2, 93), (42, 67), (43, 59), (45, 63), (60, 71), (61, 82)], 59) := by decide +kernel
theorem d_M_reckon_60 : decode zy_M_reckon.2.1 60 = .ok (.iload_n 1, 1) := by decide +kernel
theorem d_M_reckon_61 : decode zy_M_reckon.2.1 61 = .ok (.iload_n 2, 1) := by decide +kernel
theorem d_M_reckon_62 : decode zy_M_reckon.2.1 62 = .ok (.iadd, 1) := by decide +kernel
theorem d_M_reckon_63 : decode zy_M_reckon.2.1 63 = .ok (.ireturn, 1) := by decide +kernel
theorem d_M_reckon_64 : decode zy_M_reckon.2.1 64 = .ok (.iload_n 1, 1) := by decide +kernel
theorem d_M_reckon_65 : decode zy_M_reckon.2.1 65 = .ok (.iload_n 2, 1) := by decide +kernel
theorem d_M_reckon_66 : decode zy_M_reckon.2.1 66 = .ok (.isub, 1) := by decide +kernel
theorem d_M_reckon_67 : decode zy_M_reckon.2.1 67 = .ok (.ireturn, 1) := by decide +kernel
theorem d_M_reckon_68 : decode zy_M_reckon.2.1 68 = .ok (.iload_n 1, 1) := by decide +kernel
theorem d_M_reckon_69 : decode zy_M_reckon.2.1 69 = .ok (.iload_n 2, 1) := by decide +kernel
theorem d_M_reckon_70 : decode zy_M_reckon.2.1 70 = .ok (.imul, 1) := by decide +kernel
theorem d_M_reckon_71 : decode zy_M_reckon.2.1 71 = .ok (.ireturn, 1) := by decide +kernel
theorem d_M_reckon_72 : decode zy_M_reckon.2.1 72 = .ok (.iload_n 1, 1) := by decide +kernel
theorem d_M_reckon_73 : decode zy_M_reckon.2.1 73 = .ok (.iload_n 2, 1) := by decide +kernel
theorem d_M_reckon_74 : decode zy_M_reckon.2.1 74 = .ok (.if_icmp .ge (7), 3) := by decide +kernel
theorem d_M_reckon_77 : decode zy_M_reckon.2.1 77 = .ok (.iconst 1, 1) := by decide +kernel
theorem d_M_reckon_78 : decode zy_M_reckon.2.1 78 = .ok (.goto (4), 3) := by decide +kernel
theorem d_M_reckon_81 : decode zy_M_reckon.2.1 81 = .ok (.iconst 0, 1) := by decide +kernel
theorem d_M_reckon_82 : decode zy_M_reckon.2.1 82 = .ok (.ireturn, 1) := by decide +kernel
theorem d_M_reckon_83 : decode zy_M_reckon.2.1 83 = .ok (.iload_n 1, 1) := by decide +kernel
theorem d_M_reckon_84 : decode zy_M_reckon.2.1 84 = .ok (.iload_n 2, 1) := by decide +kernel
theorem d_M_reckon_85 : decode zy_M_reckon.2.1 85 = .ok (.if_icmp .ne (7), 3) := by decide +kernel
theorem d_M_reckon_88 : decode zy_M_reckon.2.1 88 = .ok (.iconst 1, 1) := by decide +kernel
theorem d_M_reckon_89 : decode zy_M_reckon.2.1 89 = .ok (.goto (4), 3) := by decide +kernel
theorem d_M_reckon_92 : decode zy_M_reckon.2.1 92 = .ok (.iconst 0, 1) := by decide +kernel
theorem d_M_reckon_93 : decode zy_M_reckon.2.1 93 = .ok (.ireturn, 1) := by decide +kernel
theorem d_M_reckon_94 : decode zy_M_reckon.2.1 94 = .ok (.iload_n 1, 1) := by decide +kernel
theorem d_M_reckon_95 : decode zy_M_reckon.2.1 95 = .ok (.ifCond .eq (11), 3) := by decide +kernel
theorem d_M_reckon_98 : decode zy_M_reckon.2.1 98 = .ok (.iload_n 2, 1) := by decide +kernel
theorem d_M_reckon_99 : decode zy_M_reckon.2.1 99 = .ok (.ifCond .eq (7), 3) := by decide +kernel
theorem d_M_reckon_102 : decode zy_M_reckon.2.1 102 = .ok (.iconst 1, 1) := by decide +kernel
theorem d_M_reckon_103 : decode zy_M_reckon.2.1 103 = .ok (.goto (4), 3) := by decide +kernel
theorem d_M_reckon_106 : decode zy_M_reckon.2.1 106 = .ok (.iconst 0, 1) := by decide +kernel
theorem d_M_reckon_107 : decode zy_M_reckon.2.1 107 = .ok (.ireturn, 1) := by decide +kernel
theorem d_M_reckon_108 : decode zy_M_reckon.2.1 108 = .ok (.iload_n 1, 1) := by decide +kernel
theorem d_M_reckon_109 : decode zy_M_reckon.2.1 109 = .ok (.ifCond .ne (7), 3) := by decide +kernel
theorem d_M_reckon_112 : decode zy_M_reckon.2.1 112 = .ok (.iload_n 2, 1) := by decide +kernel
theorem d_M_reckon_113 : decode zy_M_reckon.2.1 113 = .ok (.ifCond .eq (7), 3) := by decide +kernel
theorem d_M_reckon_116 : decode zy_M_reckon.2.1 116 = .ok (.iconst 1, 1) := by decide +kernel
theorem d_M_reckon_117 : decode zy_M_reckon.2.1 117 = .ok (.goto (4), 3) := by decide +kernel
theorem d_M_reckon_120 : decode zy_M_reckon.2.1 120 = .ok (.iconst 0, 1) := by decide +kernel
theorem d_M_reckon_121 : decode zy_M_reckon.2.1 121 = .ok (.ireturn, 1) := by decide +kernel
theorem d_M_taughtMany_0 : decode zy_M_taughtMany.2.1 0 = .ok (.iconst 0, 1) := by decide +kernel
theorem d_M_taughtMany_1 : decode zy_M_taughtMany.2.1 1 = .ok (.istore_n 2, 1) := by decide +kernel
theorem d_M_taughtMany_2 : decode zy_M_taughtMany.2.1 2 = .ok (.iconst 0, 1) := by decide +kernel
theorem d_M_taughtMany_3 : decode zy_M_taughtMany.2.1 3 = .ok (.istore_n 3, 1) := by decide +kernel
theorem d_M_taughtMany_4 : decode zy_M_taughtMany.2.1 4 = .ok (.iload_n 3, 1) := by decide +kernel
theorem d_M_taughtMany_5 : decode zy_M_taughtMany.2.1 5 = .ok (.aload_n 0, 1) := by decide +kernel
theorem d_M_taughtMany_6 : decode zy_M_taughtMany.2.1 6 = .ok (.getfield 106, 3) := by decide +kernel
theorem d_M_taughtMany_9 : decode zy_M_taughtMany.2.1 9 = .ok (.if_icmp .ge (31), 3) := by decide +kernel
theorem d_M_taughtMany_12 : decode zy_M_taughtMany.2.1 12 = .ok (.iload_n 2, 1) := by decide +kernel
theorem d_M_taughtMany_13 : decode zy_M_taughtMany.2.1 13 = .ok (.aload_n 0, 1) := by decide +kernel
theorem d_M_taughtMany_14 : decode zy_M_taughtMany.2.1 14 = .ok (.getfield 39, 3) := by decide +kernel
theorem d_M_taughtMany_17 : decode zy_M_taughtMany.2.1 17 = .ok (.bipush 6, 2) := by decide +kernel
theorem d_M_taughtMany_19 : decode zy_M_taughtMany.2.1 19 = .ok (.iload_n 1, 1) := by decide +kernel
theorem d_M_taughtMany_20 : decode zy_M_taughtMany.2.1 20 = .ok (.imul, 1) := by decide +kernel
theorem d_M_taughtMany_21 : decode zy_M_taughtMany.2.1 21 = .ok (.iload_n 3, 1) := by decide +kernel
theorem d_M_taughtMany_22 : decode zy_M_taughtMany.2.1 22 = .ok (.iadd, 1) := by decide +kernel
theorem d_M_taughtMany_23 : decode zy_M_taughtMany.2.1 23 = .ok (.baload, 1) := by decide +kernel
theorem d_M_taughtMany_24 : decode zy_M_taughtMany.2.1 24 = .ok (.ifCond .eq (7), 3) := by decide +kernel
theorem d_M_taughtMany_27 : decode zy_M_taughtMany.2.1 27 = .ok (.iconst 1, 1) := by decide +kernel
theorem d_M_taughtMany_28 : decode zy_M_taughtMany.2.1 28 = .ok (.goto (4), 3) := by decide +kernel
theorem d_M_taughtMany_31 : decode zy_M_taughtMany.2.1 31 = .ok (.iconst 0, 1) := by decide +kernel
theorem d_M_taughtMany_32 : decode zy_M_taughtMany.2.1 32 = .ok (.iadd, 1) := by decide +kernel
theorem d_M_taughtMany_33 : decode zy_M_taughtMany.2.1 33 = .ok (.istore_n 2, 1) := by decide +kernel
theorem d_M_taughtMany_34 : decode zy_M_taughtMany.2.1 34 = .ok (.iinc 3 1, 3) := by decide +kernel
theorem d_M_taughtMany_37 : decode zy_M_taughtMany.2.1 37 = .ok (.goto (-33), 3) := by decide +kernel
theorem d_M_taughtMany_40 : decode zy_M_taughtMany.2.1 40 = .ok (.iload_n 2, 1) := by decide +kernel
theorem d_M_taughtMany_41 : decode zy_M_taughtMany.2.1 41 = .ok (.ireturn, 1) := by decide +kernel
theorem d_M_wordOf_0 : decode zy_M_wordOf.2.1 0 = .ok (.iconst 0, 1) := by decide +kernel
theorem d_M_wordOf_1 : decode zy_M_wordOf.2.1 1 = .ok (.istore_n 1, 1) := by decide +kernel
theorem d_M_wordOf_2 : decode zy_M_wordOf.2.1 2 = .ok (.iconst 0, 1) := by decide +kernel
theorem d_M_wordOf_3 : decode zy_M_wordOf.2.1 3 = .ok (.istore_n 2, 1) := by decide +kernel
theorem d_M_wordOf_4 : decode zy_M_wordOf.2.1 4 = .ok (.iload_n 1, 1) := by decide +kernel
theorem d_M_wordOf_5 : decode zy_M_wordOf.2.1 5 = .ok (.aload_n 0, 1) := by decide +kernel
theorem d_M_wordOf_6 : decode zy_M_wordOf.2.1 6 = .ok (.getfield 57, 3) := by decide +kernel
theorem d_M_wordOf_9 : decode zy_M_wordOf.2.1 9 = .ok (.arraylength, 1) := by decide +kernel
theorem d_M_wordOf_10 : decode zy_M_wordOf.2.1 10 = .ok (.if_icmp .ge (106), 3) := by decide +kernel
theorem d_M_wordOf_13 : decode zy_M_wordOf.2.1 13 = .ok (.iconst 0, 1) := by decide +kernel
theorem d_M_wordOf_14 : decode zy_M_wordOf.2.1 14 = .ok (.istore_n 3, 1) := by decide +kernel
theorem d_M_wordOf_15 : decode zy_M_wordOf.2.1 15 = .ok (.iconst 1, 1) := by decide +kernel
theorem d_M_wordOf_16 : decode zy_M_wordOf.2.1 16 = .ok (.istore 4, 2) := by decide +kernel
theorem d_M_wordOf_18 : decode zy_M_wordOf.2.1 18 = .ok (.aload_n 0, 1) := by decide +kernel
theorem d_M_wordOf_19 : decode zy_M_wordOf.2.1 19 = .ok (.getfield 57, 3) := by decide +kernel
theorem d_M_wordOf_22 : decode zy_M_wordOf.2.1 22 = .ok (.iload_n 1, 1) := by decide +kernel
theorem d_M_wordOf_23 : decode zy_M_wordOf.2.1 23 = .ok (.iload_n 3, 1) := by decide +kernel
theorem d_M_wordOf_24 : decode zy_M_wordOf.2.1 24 = .ok (.iadd, 1) := by decide +kernel
theorem d_M_wordOf_25 : decode zy_M_wordOf.2.1 25 = .ok (.caload, 1) := by decide +kernel
theorem d_M_wordOf_26 : decode zy_M_wordOf.2.1 26 = .ok (.bipush 32, 2) := by decide +kernel
theorem d_M_wordOf_28 : decode zy_M_wordOf.2.1 28 = .ok (.if_icmp .eq (56), 3) := by decide +kernel
theorem d_M_wordOf_31 : decode zy_M_wordOf.2.1 31 = .ok (.iload 4, 2) := by decide +kernel
theorem d_M_wordOf_33 : decode zy_M_wordOf.2.1 33 = .ok (.ifCond .eq (42), 3) := by decide +kernel
theorem d_M_wordOf_36 : decode zy_M_wordOf.2.1 36 = .ok (.aload_n 0, 1) := by decide +kernel
theorem d_M_wordOf_37 : decode zy_M_wordOf.2.1 37 = .ok (.getfield 166, 3) := by decide +kernel
theorem d_M_wordOf_40 : decode zy_M_wordOf.2.1 40 = .ok (.iload_n 3, 1) := by decide +kernel
theorem d_M_wordOf_41 : decode zy_M_wordOf.2.1 41 = .ok (.iadd, 1) := by decide +kernel
theorem d_M_wordOf_42 : decode zy_M_wordOf.2.1 42 = .ok (.aload_n 0, 1) := by decide +kernel
theorem d_M_wordOf_43 : decode zy_M_wordOf.2.1 43 = .ok (.getfield 169, 3) := by decide +kernel
theorem d_M_wordOf_46 : decode zy_M_wordOf.2.1 46 = .ok (.if_icmp .ge (29), 3) := by decide +kernel
theorem d_M_wordOf_49 : decode zy_M_wordOf.2.1 49 = .ok (.aload_n 0, 1) := by decide +kernel
theorem d_M_wordOf_50 : decode zy_M_wordOf.2.1 50 = .ok (.getfield 45, 3) := by decide +kernel
theorem d_M_wordOf_53 : decode zy_M_wordOf.2.1 53 = .ok (.aload_n 0, 1) := by decide +kernel
theorem d_M_wordOf_54 : decode zy_M_wordOf.2.1 54 = .ok (.getfield 166, 3) := by decide +kernel
theorem d_M_wordOf_57 : decode zy_M_wordOf.2.1 57 = .ok (.iload_n 3, 1) := by decide +kernel
theorem d_M_wordOf_58 : decode zy_M_wordOf.2.1 58 = .ok (.iadd, 1) := by decide +kernel
theorem d_M_wordOf_59 : decode zy_M_wordOf.2.1 59 = .ok (.iaload, 1) := by decide +kernel
theorem d_M_wordOf_60 : decode zy_M_wordOf.2.1 60 = .ok (.aload_n 0, 1) := by decide +kernel
theorem d_M_wordOf_61 : decode zy_M_wordOf.2.1 61 = .ok (.getfield 57, 3) := by decide +kernel
theorem d_M_wordOf_64 : decode zy_M_wordOf.2.1 64 = .ok (.iload_n 1, 1) := by decide +kernel
theorem d_M_wordOf_65 : decode zy_M_wordOf.2.1 65 = .ok (.iload_n 3, 1) := by decide +kernel
theorem d_M_wordOf_66 : decode zy_M_wordOf.2.1 66 = .ok (.iadd, 1) := by decide +kernel
theorem d_M_wordOf_67 : decode zy_M_wordOf.2.1 67 = .ok (.caload, 1) := by decide +kernel
theorem d_M_wordOf_68 : decode zy_M_wordOf.2.1 68 = .ok (.if_icmp .ne (7), 3) := by decide +kernel
theorem d_M_wordOf_71 : decode zy_M_wordOf.2.1 71 = .ok (.iconst 1, 1) := by decide +kernel
theorem d_M_wordOf_72 : decode zy_M_wordOf.2.1 72 = .ok (.goto (4), 3) := by decide +kernel
theorem d_M_wordOf_75 : decode zy_M_wordOf.2.1 75 = .ok (.iconst 0, 1) := by decide +kernel
theorem d_M_wordOf_76 : decode zy_M_wordOf.2.1 76 = .ok (.istore 4, 2) := by decide +kernel
theorem d_M_wordOf_78 : decode zy_M_wordOf.2.1 78 = .ok (.iinc 3 1, 3) := by decide +kernel
theorem d_M_wordOf_81 : decode zy_M_wordOf.2.1 81 = .ok (.goto (-63), 3) := by decide +kernel
theorem d_M_wordOf_84 : decode zy_M_wordOf.2.1 84 = .ok (.iload 4, 2) := by decide +kernel
theorem d_M_wordOf_86 : decode zy_M_wordOf.2.1 86 = .ok (.ifCond .eq (18), 3) := by decide +kernel
theorem d_M_wordOf_89 : decode zy_M_wordOf.2.1 89 = .ok (.iload_n 3, 1) := by decide +kernel
theorem d_M_wordOf_90 : decode zy_M_wordOf.2.1 90 = .ok (.aload_n 0, 1) := by decide +kernel
theorem d_M_wordOf_91 : decode zy_M_wordOf.2.1 91 = .ok (.getfield 169, 3) := by decide +kernel
theorem d_M_wordOf_94 : decode zy_M_wordOf.2.1 94 = .ok (.aload_n 0, 1) := by decide +kernel
theorem d_M_wordOf_95 : decode zy_M_wordOf.2.1 95 = .ok (.getfield 166, 3) := by decide +kernel
theorem d_M_wordOf_98 : decode zy_M_wordOf.2.1 98 = .ok (.isub, 1) := by decide +kernel
theorem d_M_wordOf_99 : decode zy_M_wordOf.2.1 99 = .ok (.if_icmp .ne (5), 3) := by decide +kernel
theorem d_M_wordOf_102 : decode zy_M_wordOf.2.1 102 = .ok (.iload_n 2, 1) := by decide +kernel
theorem d_M_wordOf_103 : decode zy_M_wordOf.2.1 103 = .ok (.ireturn, 1) := by decide +kernel
theorem d_M_wordOf_104 : decode zy_M_wordOf.2.1 104 = .ok (.iload_n 1, 1) := by decide +kernel
theorem d_M_wordOf_105 : decode zy_M_wordOf.2.1 105 = .ok (.iload_n 3, 1) := by decide +kernel
theorem d_M_wordOf_106 : decode zy_M_wordOf.2.1 106 = .ok (.iconst 1, 1) := by decide +kernel
theorem d_M_wordOf_107 : decode zy_M_wordOf.2.1 107 = .ok (.iadd, 1) := by decide +kernel
theorem d_M_wordOf_108 : decode zy_M_wordOf.2.1 108 = .ok (.iadd, 1) := by decide +kernel
theorem d_M_wordOf_109 : decode zy_M_wordOf.2.1 109 = .ok (.istore_n 1, 1) := by decide +kernel
theorem d_M_wordOf_110 : decode zy_M_wordOf.2.1 110 = .ok (.iinc 2 1, 3) := by decide +kernel
theorem d_M_wordOf_113 : decode zy_M_wordOf.2.1 113 = .ok (.goto (-109), 3) := by decide +kernel
theorem d_M_wordOf_116 : decode zy_M_wordOf.2.1 116 = .ok (.iconst (-1), 1) := by decide +kernel
theorem d_M_wordOf_117 : decode zy_M_wordOf.2.1 117 = .ok (.ireturn, 1) := by decide +kernel
theorem d_M_wrong_0 : decode zy_M_wrong.2.1 0 = .ok (.aload_n 0, 1) := by decide +kernel
theorem d_M_wrong_1 : decode zy_M_wrong.2.1 1 = .ok (.getfield 202, 3) := by decide +kernel
theorem d_M_wrong_4 : decode zy_M_wrong.2.1 4 = .ok (.ifCond .ne (16), 3) := by decide +kernel
theorem d_M_wrong_7 : decode zy_M_wrong.2.1 7 = .ok (.aload_n 0, 1) := by decide +kernel
theorem d_M_wrong_8 : decode zy_M_wrong.2.1 8 = .ok (.iconst 1, 1) := by decide +kernel
theorem d_M_wrong_9 : decode zy_M_wrong.2.1 9 = .ok (.putfield 202, 3) := by decide +kernel
theorem d_M_wrong_12 : decode zy_M_wrong.2.1 12 = .ok (.aload_n 0, 1) := by decide +kernel
theorem d_M_wrong_13 : decode zy_M_wrong.2.1 13 = .ok (.aload_n 0, 1) := by decide +kernel
theorem d_M_wrong_14 : decode zy_M_wrong.2.1 14 = .ok (.getfield 166, 3) := by decide +kernel
theorem d_M_wrong_17 : decode zy_M_wrong.2.1 17 = .ok (.putfield 206, 3) := by decide +kernel
theorem d_M_wrong_20 : decode zy_M_wrong.2.1 20 = .ok (.return_, 1) := by decide +kernel
theorem d_M_yearsOf_0 : decode zy_M_yearsOf.2.1 0 = .ok (.aload_n 0, 1) := by decide +kernel
theorem d_M_yearsOf_1 : decode zy_M_yearsOf.2.1 1 = .ok (.getfield 39, 3) := by decide +kernel
theorem d_M_yearsOf_4 : decode zy_M_yearsOf.2.1 4 = .ok (.bipush 6, 2) := by decide +kernel
theorem d_M_yearsOf_6 : decode zy_M_yearsOf.2.1 6 = .ok (.iload_n 1, 1) := by decide +kernel
theorem d_M_yearsOf_7 : decode zy_M_yearsOf.2.1 7 = .ok (.imul, 1) := by decide +kernel
theorem d_M_yearsOf_8 : decode zy_M_yearsOf.2.1 8 = .ok (.iload_n 2, 1) := by decide +kernel
theorem d_M_yearsOf_9 : decode zy_M_yearsOf.2.1 9 = .ok (.iadd, 1) := by decide +kernel
theorem d_M_yearsOf_10 : decode zy_M_yearsOf.2.1 10 = .ok (.baload, 1) := by decide +kernel
theorem d_M_yearsOf_11 : decode zy_M_yearsOf.2.1 11 = .ok (.ifCond .eq (22), 3) := by decide +kernel
theorem d_M_yearsOf_14 : decode zy_M_yearsOf.2.1 14 = .ok (.aload_n 0, 1) := by decide +kernel
theorem d_M_yearsOf_15 : decode zy_M_yearsOf.2.1 15 = .ok (.getfield 130, 3) := by decide +kernel
theorem d_M_yearsOf_18 : decode zy_M_yearsOf.2.1 18 = .ok (.aload_n 0, 1) := by decide +kernel
theorem d_M_yearsOf_19 : decode zy_M_yearsOf.2.1 19 = .ok (.getfield 36, 3) := by decide +kernel
theorem d_M_yearsOf_22 : decode zy_M_yearsOf.2.1 22 = .ok (.bipush 6, 2) := by decide +kernel
theorem d_M_yearsOf_24 : decode zy_M_yearsOf.2.1 24 = .ok (.iload_n 1, 1) := by decide +kernel
theorem d_M_yearsOf_25 : decode zy_M_yearsOf.2.1 25 = .ok (.imul, 1) := by decide +kernel
theorem d_M_yearsOf_26 : decode zy_M_yearsOf.2.1 26 = .ok (.iload_n 2, 1) := by decide +kernel
theorem d_M_yearsOf_27 : decode zy_M_yearsOf.2.1 27 = .ok (.iadd, 1) := by decide +kernel
theorem d_M_yearsOf_28 : decode zy_M_yearsOf.2.1 28 = .ok (.iaload, 1) := by decide +kernel
theorem d_M_yearsOf_29 : decode zy_M_yearsOf.2.1 29 = .ok (.isub, 1) := by decide +kernel
theorem d_M_yearsOf_30 : decode zy_M_yearsOf.2.1 30 = .ok (.goto (5), 3) := by decide +kernel
theorem d_M_yearsOf_33 : decode zy_M_yearsOf.2.1 33 = .ok (.bipush 99, 2) := by decide +kernel
theorem d_M_yearsOf_35 : decode zy_M_yearsOf.2.1 35 = .ok (.ireturn, 1) := by decide +kernel
theorem d_Integer_bitCount_0 : decode zy_Integer_bitCount.2.1 0 = .ok (.iload_n 0, 1) := by decide +kernel
theorem d_Integer_bitCount_1 : decode zy_Integer_bitCount.2.1 1 = .ok (.iload_n 0, 1) := by decide +kernel
theorem d_Integer_bitCount_2 : decode zy_Integer_bitCount.2.1 2 = .ok (.iconst 1, 1) := by decide +kernel
theorem d_Integer_bitCount_3 : decode zy_Integer_bitCount.2.1 3 = .ok (.iushr, 1) := by decide +kernel
theorem d_Integer_bitCount_4 : decode zy_Integer_bitCount.2.1 4 = .ok (.ldc_w 265, 3) := by decide +kernel
theorem d_Integer_bitCount_7 : decode zy_Integer_bitCount.2.1 7 = .ok (.iand, 1) := by decide +kernel
theorem d_Integer_bitCount_8 : decode zy_Integer_bitCount.2.1 8 = .ok (.isub, 1) := by decide +kernel
theorem d_Integer_bitCount_9 : decode zy_Integer_bitCount.2.1 9 = .ok (.istore_n 0, 1) := by decide +kernel
theorem d_Integer_bitCount_10 : decode zy_Integer_bitCount.2.1 10 = .ok (.iload_n 0, 1) := by decide +kernel
theorem d_Integer_bitCount_11 : decode zy_Integer_bitCount.2.1 11 = .ok (.ldc_w 266, 3) := by decide +kernel
theorem d_Integer_bitCount_14 : decode zy_Integer_bitCount.2.1 14 = .ok (.iand, 1) := by decide +kernel
theorem d_Integer_bitCount_15 : decode zy_Integer_bitCount.2.1 15 = .ok (.iload_n 0, 1) := by decide +kernel
theorem d_Integer_bitCount_16 : decode zy_Integer_bitCount.2.1 16 = .ok (.iconst 2, 1) := by decide +kernel
theorem d_Integer_bitCount_17 : decode zy_Integer_bitCount.2.1 17 = .ok (.iushr, 1) := by decide +kernel
theorem d_Integer_bitCount_18 : decode zy_Integer_bitCount.2.1 18 = .ok (.ldc_w 266, 3) := by decide +kernel
theorem d_Integer_bitCount_21 : decode zy_Integer_bitCount.2.1 21 = .ok (.iand, 1) := by decide +kernel
theorem d_Integer_bitCount_22 : decode zy_Integer_bitCount.2.1 22 = .ok (.iadd, 1) := by decide +kernel
theorem d_Integer_bitCount_23 : decode zy_Integer_bitCount.2.1 23 = .ok (.istore_n 0, 1) := by decide +kernel
theorem d_Integer_bitCount_24 : decode zy_Integer_bitCount.2.1 24 = .ok (.iload_n 0, 1) := by decide +kernel
theorem d_Integer_bitCount_25 : decode zy_Integer_bitCount.2.1 25 = .ok (.iload_n 0, 1) := by decide +kernel
theorem d_Integer_bitCount_26 : decode zy_Integer_bitCount.2.1 26 = .ok (.iconst 4, 1) := by decide +kernel
theorem d_Integer_bitCount_27 : decode zy_Integer_bitCount.2.1 27 = .ok (.iushr, 1) := by decide +kernel
theorem d_Integer_bitCount_28 : decode zy_Integer_bitCount.2.1 28 = .ok (.iadd, 1) := by decide +kernel
theorem d_Integer_bitCount_29 : decode zy_Integer_bitCount.2.1 29 = .ok (.ldc_w 267, 3) := by decide +kernel
theorem d_Integer_bitCount_32 : decode zy_Integer_bitCount.2.1 32 = .ok (.iand, 1) := by decide +kernel
theorem d_Integer_bitCount_33 : decode zy_Integer_bitCount.2.1 33 = .ok (.istore_n 0, 1) := by decide +kernel
theorem d_Integer_bitCount_34 : decode zy_Integer_bitCount.2.1 34 = .ok (.iload_n 0, 1) := by decide +kernel
theorem d_Integer_bitCount_35 : decode zy_Integer_bitCount.2.1 35 = .ok (.iload_n 0, 1) := by decide +kernel
theorem d_Integer_bitCount_36 : decode zy_Integer_bitCount.2.1 36 = .ok (.bipush 8, 2) := by decide +kernel
theorem d_Integer_bitCount_38 : decode zy_Integer_bitCount.2.1 38 = .ok (.iushr, 1) := by decide +kernel
theorem d_Integer_bitCount_39 : decode zy_Integer_bitCount.2.1 39 = .ok (.iadd, 1) := by decide +kernel
theorem d_Integer_bitCount_40 : decode zy_Integer_bitCount.2.1 40 = .ok (.istore_n 0, 1) := by decide +kernel
theorem d_Integer_bitCount_41 : decode zy_Integer_bitCount.2.1 41 = .ok (.iload_n 0, 1) := by decide +kernel
theorem d_Integer_bitCount_42 : decode zy_Integer_bitCount.2.1 42 = .ok (.iload_n 0, 1) := by decide +kernel
theorem d_Integer_bitCount_43 : decode zy_Integer_bitCount.2.1 43 = .ok (.bipush 16, 2) := by decide +kernel
theorem d_Integer_bitCount_45 : decode zy_Integer_bitCount.2.1 45 = .ok (.iushr, 1) := by decide +kernel
theorem d_Integer_bitCount_46 : decode zy_Integer_bitCount.2.1 46 = .ok (.iadd, 1) := by decide +kernel
theorem d_Integer_bitCount_47 : decode zy_Integer_bitCount.2.1 47 = .ok (.istore_n 0, 1) := by decide +kernel
theorem d_Integer_bitCount_48 : decode zy_Integer_bitCount.2.1 48 = .ok (.iload_n 0, 1) := by decide +kernel
theorem d_Integer_bitCount_49 : decode zy_Integer_bitCount.2.1 49 = .ok (.bipush 63, 2) := by decide +kernel
theorem d_Integer_bitCount_51 : decode zy_Integer_bitCount.2.1 51 = .ok (.iand, 1) := by decide +kernel
theorem d_Integer_bitCount_52 : decode zy_Integer_bitCount.2.1 52 = .ok (.ireturn, 1) := by decide +kernel
theorem d_Arrays_fill_0 : decode zy_Arrays_fill.2.1 0 = .ok (.iconst 0, 1) := by decide +kernel
theorem d_Arrays_fill_1 : decode zy_Arrays_fill.2.1 1 = .ok (.istore_n 2, 1) := by decide +kernel
theorem d_Arrays_fill_2 : decode zy_Arrays_fill.2.1 2 = .ok (.aload_n 0, 1) := by decide +kernel
theorem d_Arrays_fill_3 : decode zy_Arrays_fill.2.1 3 = .ok (.arraylength, 1) := by decide +kernel
theorem d_Arrays_fill_4 : decode zy_Arrays_fill.2.1 4 = .ok (.istore_n 3, 1) := by decide +kernel
theorem d_Arrays_fill_5 : decode zy_Arrays_fill.2.1 5 = .ok (.iload_n 2, 1) := by decide +kernel
theorem d_Arrays_fill_6 : decode zy_Arrays_fill.2.1 6 = .ok (.iload_n 3, 1) := by decide +kernel
theorem d_Arrays_fill_7 : decode zy_Arrays_fill.2.1 7 = .ok (.if_icmp .ge (13), 3) := by decide +kernel
theorem d_Arrays_fill_10 : decode zy_Arrays_fill.2.1 10 = .ok (.aload_n 0, 1) := by decide +kernel
theorem d_Arrays_fill_11 : decode zy_Arrays_fill.2.1 11 = .ok (.iload_n 2, 1) := by decide +kernel
theorem d_Arrays_fill_12 : decode zy_Arrays_fill.2.1 12 = .ok (.iload_n 1, 1) := by decide +kernel
theorem d_Arrays_fill_13 : decode zy_Arrays_fill.2.1 13 = .ok (.iastore, 1) := by decide +kernel
theorem d_Arrays_fill_14 : decode zy_Arrays_fill.2.1 14 = .ok (.iinc 2 1, 3) := by decide +kernel
theorem d_Arrays_fill_17 : decode zy_Arrays_fill.2.1 17 = .ok (.goto (-12), 3) := by decide +kernel
theorem d_Arrays_fill_20 : decode zy_Arrays_fill.2.1 20 = .ok (.return_, 1) := by decide +kernel
theorem d_X_bar_0 : decode zy_X_bar.2.1 0 = .ok (.aload_n 0, 1) := by decide +kernel
theorem d_X_bar_1 : decode zy_X_bar.2.1 1 = .ok (.iload_n 1, 1) := by decide +kernel
theorem d_X_bar_2 : decode zy_X_bar.2.1 2 = .ok (.invokevirtual 129, 3) := by decide +kernel
theorem d_X_bar_5 : decode zy_X_bar.2.1 5 = .ok (.ifCond .eq (21), 3) := by decide +kernel
theorem d_X_bar_8 : decode zy_X_bar.2.1 8 = .ok (.aload_n 0, 1) := by decide +kernel
theorem d_X_bar_9 : decode zy_X_bar.2.1 9 = .ok (.getfield 10, 3) := by decide +kernel
theorem d_X_bar_12 : decode zy_X_bar.2.1 12 = .ok (.iload_n 2, 1) := by decide +kernel
theorem d_X_bar_13 : decode zy_X_bar.2.1 13 = .ok (.invokevirtual 132, 3) := by decide +kernel
theorem d_X_bar_16 : decode zy_X_bar.2.1 16 = .ok (.ifCond .eq (10), 3) := by decide +kernel
theorem d_X_bar_19 : decode zy_X_bar.2.1 19 = .ok (.iload_n 3, 1) := by decide +kernel
theorem d_X_bar_20 : decode zy_X_bar.2.1 20 = .ok (.invokestatic 114, 3) := by decide +kernel
theorem d_X_bar_23 : decode zy_X_bar.2.1 23 = .ok (.ifCond .ne (6), 3) := by decide +kernel
theorem d_X_bar_26 : decode zy_X_bar.2.1 26 = .ok (.bipush (-2), 2) := by decide +kernel
theorem d_X_bar_28 : decode zy_X_bar.2.1 28 = .ok (.ireturn, 1) := by decide +kernel
theorem d_X_bar_29 : decode zy_X_bar.2.1 29 = .ok (.aload_n 0, 1) := by decide +kernel
theorem d_X_bar_30 : decode zy_X_bar.2.1 30 = .ok (.getfield 18, 3) := by decide +kernel
theorem d_X_bar_33 : decode zy_X_bar.2.1 33 = .ok (.iload_n 1, 1) := by decide +kernel
theorem d_X_bar_34 : decode zy_X_bar.2.1 34 = .ok (.aaload, 1) := by decide +kernel
theorem d_X_bar_35 : decode zy_X_bar.2.1 35 = .ok (.astore 4, 2) := by decide +kernel
theorem d_X_bar_37 : decode zy_X_bar.2.1 37 = .ok (.aload 4, 2) := by decide +kernel
theorem d_X_bar_39 : decode zy_X_bar.2.1 39 = .ok (.iload_n 2, 1) := by decide +kernel
theorem d_X_bar_40 : decode zy_X_bar.2.1 40 = .ok (.invokevirtual 135, 3) := by decide +kernel
theorem d_X_bar_43 : decode zy_X_bar.2.1 43 = .ok (.ifCond .eq (7), 3) := by decide +kernel
theorem d_X_bar_46 : decode zy_X_bar.2.1 46 = .ok (.iconst 1, 1) := by decide +kernel
theorem d_X_bar_47 : decode zy_X_bar.2.1 47 = .ok (.goto (4), 3) := by decide +kernel
theorem d_X_bar_50 : decode zy_X_bar.2.1 50 = .ok (.iconst 0, 1) := by decide +kernel
theorem d_X_bar_51 : decode zy_X_bar.2.1 51 = .ok (.istore 5, 2) := by decide +kernel
theorem d_X_bar_53 : decode zy_X_bar.2.1 53 = .ok (.aload 4, 2) := by decide +kernel
theorem d_X_bar_55 : decode zy_X_bar.2.1 55 = .ok (.iload_n 2, 1) := by decide +kernel
theorem d_X_bar_56 : decode zy_X_bar.2.1 56 = .ok (.iload_n 3, 1) := by decide +kernel
theorem d_X_bar_57 : decode zy_X_bar.2.1 57 = .ok (.iconst 1, 1) := by decide +kernel
theorem d_X_bar_58 : decode zy_X_bar.2.1 58 = .ok (.if_icmp .ne (7), 3) := by decide +kernel
theorem d_X_bar_61 : decode zy_X_bar.2.1 61 = .ok (.iconst 1, 1) := by decide +kernel
theorem d_X_bar_62 : decode zy_X_bar.2.1 62 = .ok (.goto (4), 3) := by decide +kernel
theorem d_X_bar_65 : decode zy_X_bar.2.1 65 = .ok (.iconst 0, 1) := by decide +kernel
theorem d_X_bar_66 : decode zy_X_bar.2.1 66 = .ok (.invokevirtual 147, 3) := by decide +kernel
theorem d_X_bar_69 : decode zy_X_bar.2.1 69 = .ok (.iload 5, 2) := by decide +kernel
theorem d_X_bar_71 : decode zy_X_bar.2.1 71 = .ok (.ireturn, 1) := by decide +kernel
theorem d_X_bounded_0 : decode zy_X_bounded.2.1 0 = .ok (.iload_n 1, 1) := by decide +kernel
theorem d_X_bounded_1 : decode zy_X_bounded.2.1 1 = .ok (.iload_n 2, 1) := by decide +kernel
theorem d_X_bounded_2 : decode zy_X_bounded.2.1 2 = .ok (.iload_n 0, 1) := by decide +kernel
theorem d_X_bounded_3 : decode zy_X_bounded.2.1 3 = .ok (.invokestatic 264, 3) := by decide +kernel
theorem d_X_bounded_6 : decode zy_X_bounded.2.1 6 = .ok (.invokestatic 259, 3) := by decide +kernel
theorem d_X_bounded_9 : decode zy_X_bounded.2.1 9 = .ok (.ireturn, 1) := by decide +kernel
theorem d_X_copy_0 : decode zy_X_copy.2.1 0 = .ok (.iload_n 1, 1) := by decide +kernel
theorem d_X_copy_1 : decode zy_X_copy.2.1 1 = .ok (.invokestatic 277, 3) := by decide +kernel
theorem d_X_copy_4 : decode zy_X_copy.2.1 4 = .ok (.ifCond .eq (10), 3) := by decide +kernel
theorem d_X_copy_7 : decode zy_X_copy.2.1 7 = .ok (.iload_n 3, 1) := by decide +kernel
theorem d_X_copy_8 : decode zy_X_copy.2.1 8 = .ok (.invokestatic 277, 3) := by decide +kernel
theorem d_X_copy_11 : decode zy_X_copy.2.1 11 = .ok (.ifCond .ne (6), 3) := by decide +kernel
theorem d_X_copy_14 : decode zy_X_copy.2.1 14 = .ok (.bipush (-2), 2) := by decide +kernel
theorem d_X_copy_16 : decode zy_X_copy.2.1 16 = .ok (.ireturn, 1) := by decide +kernel
theorem d_X_copy_17 : decode zy_X_copy.2.1 17 = .ok (.aload_n 0, 1) := by decide +kernel
theorem d_X_copy_18 : decode zy_X_copy.2.1 18 = .ok (.getfield 65, 3) := by decide +kernel
theorem d_X_copy_21 : decode zy_X_copy.2.1 21 = .ok (.iload_n 1, 1) := by decide +kernel
theorem d_X_copy_22 : decode zy_X_copy.2.1 22 = .ok (.aaload, 1) := by decide +kernel
theorem d_X_copy_23 : decode zy_X_copy.2.1 23 = .ok (.astore 6, 2) := by decide +kernel
theorem d_X_copy_25 : decode zy_X_copy.2.1 25 = .ok (.aload_n 0, 1) := by decide +kernel
theorem d_X_copy_26 : decode zy_X_copy.2.1 26 = .ok (.getfield 65, 3) := by decide +kernel
theorem d_X_copy_29 : decode zy_X_copy.2.1 29 = .ok (.iload_n 3, 1) := by decide +kernel
theorem d_X_copy_30 : decode zy_X_copy.2.1 30 = .ok (.aaload, 1) := by decide +kernel
theorem d_X_copy_31 : decode zy_X_copy.2.1 31 = .ok (.astore 7, 2) := by decide +kernel
theorem d_X_copy_33 : decode zy_X_copy.2.1 33 = .ok (.aload 6, 2) := by decide +kernel
theorem d_X_copy_35 : decode zy_X_copy.2.1 35 = .ok (.invokevirtual 280, 3) := by decide +kernel
theorem d_X_copy_38 : decode zy_X_copy.2.1 38 = .ok (.ifCond .ne (11), 3) := by decide +kernel
theorem d_X_copy_41 : decode zy_X_copy.2.1 41 = .ok (.aload 7, 2) := by decide +kernel
theorem d_X_copy_43 : decode zy_X_copy.2.1 43 = .ok (.invokevirtual 280, 3) := by decide +kernel
theorem d_X_copy_46 : decode zy_X_copy.2.1 46 = .ok (.ifCond .eq (6), 3) := by decide +kernel
theorem d_X_copy_49 : decode zy_X_copy.2.1 49 = .ok (.bipush (-11), 2) := by decide +kernel
theorem d_X_copy_51 : decode zy_X_copy.2.1 51 = .ok (.ireturn, 1) := by decide +kernel
theorem d_X_copy_52 : decode zy_X_copy.2.1 52 = .ok (.aload 6, 2) := by decide +kernel
theorem d_X_copy_54 : decode zy_X_copy.2.1 54 = .ok (.getfield 316, 3) := by decide +kernel
theorem d_X_copy_57 : decode zy_X_copy.2.1 57 = .ok (.aload 7, 2) := by decide +kernel
theorem d_X_copy_59 : decode zy_X_copy.2.1 59 = .ok (.getfield 316, 3) := by decide +kernel
theorem d_X_copy_62 : decode zy_X_copy.2.1 62 = .ok (.if_icmp .eq (6), 3) := by decide +kernel
theorem d_X_copy_65 : decode zy_X_copy.2.1 65 = .ok (.bipush (-13), 2) := by decide +kernel
theorem d_X_copy_67 : decode zy_X_copy.2.1 67 = .ok (.ireturn, 1) := by decide +kernel
theorem d_X_copy_68 : decode zy_X_copy.2.1 68 = .ok (.aload 6, 2) := by decide +kernel
theorem d_X_copy_70 : decode zy_X_copy.2.1 70 = .ok (.iload_n 2, 1) := by decide +kernel
theorem d_X_copy_71 : decode zy_X_copy.2.1 71 = .ok (.iload 5, 2) := by decide +kernel
theorem d_X_copy_73 : decode zy_X_copy.2.1 73 = .ok (.invokevirtual 319, 3) := by decide +kernel
theorem d_X_copy_76 : decode zy_X_copy.2.1 76 = .ok (.ifCond .eq (15), 3) := by decide +kernel
theorem d_X_copy_79 : decode zy_X_copy.2.1 79 = .ok (.aload 7, 2) := by decide +kernel
theorem d_X_copy_81 : decode zy_X_copy.2.1 81 = .ok (.iload 4, 2) := by decide +kernel
theorem d_X_copy_83 : decode zy_X_copy.2.1 83 = .ok (.iload 5, 2) := by decide +kernel
theorem d_X_copy_85 : decode zy_X_copy.2.1 85 = .ok (.invokevirtual 319, 3) := by decide +kernel
theorem d_X_copy_88 : decode zy_X_copy.2.1 88 = .ok (.ifCond .ne (6), 3) := by decide +kernel
theorem d_X_copy_91 : decode zy_X_copy.2.1 91 = .ok (.bipush (-12), 2) := by decide +kernel
theorem d_X_copy_93 : decode zy_X_copy.2.1 93 = .ok (.ireturn, 1) := by decide +kernel
theorem d_X_copy_94 : decode zy_X_copy.2.1 94 = .ok (.aload 6, 2) := by decide +kernel
theorem d_X_copy_96 : decode zy_X_copy.2.1 96 = .ok (.getfield 285, 3) := by decide +kernel
theorem d_X_copy_99 : decode zy_X_copy.2.1 99 = .ok (.iload_n 2, 1) := by decide +kernel
theorem d_X_copy_100 : decode zy_X_copy.2.1 100 = .ok (.aload 7, 2) := by decide +kernel
theorem d_X_copy_102 : decode zy_X_copy.2.1 102 = .ok (.getfield 285, 3) := by decide +kernel
theorem d_X_copy_105 : decode zy_X_copy.2.1 105 = .ok (.iload 4, 2) := by decide +kernel
theorem d_X_copy_107 : decode zy_X_copy.2.1 107 = .ok (.iload 5, 2) := by decide +kernel
theorem d_X_copy_109 : decode zy_X_copy.2.1 109 = .ok (.invokestatic 322, 3) := by decide +kernel
theorem d_X_copy_112 : decode zy_X_copy.2.1 112 = .ok (.iload 5, 2) := by decide +kernel
theorem d_X_copy_114 : decode zy_X_copy.2.1 114 = .ok (.ireturn, 1) := by decide +kernel
theorem d_X_even_0 : decode zy_X_even.2.1 0 = .ok (.aload_n 0, 1) := by decide +kernel
theorem d_X_even_1 : decode zy_X_even.2.1 1 = .ok (.getfield 22, 3) := by decide +kernel
theorem d_X_even_4 : decode zy_X_even.2.1 4 = .ok (.ifCond .ne (5), 3) := by decide +kernel
theorem d_X_even_7 : decode zy_X_even.2.1 7 = .ok (.iconst (-1), 1) := by decide +kernel
theorem d_X_even_8 : decode zy_X_even.2.1 8 = .ok (.ireturn, 1) := by decide +kernel
theorem d_X_even_9 : decode zy_X_even.2.1 9 = .ok (.aload_n 0, 1) := by decide +kernel
theorem d_X_even_10 : decode zy_X_even.2.1 10 = .ok (.getfield 18, 3) := by decide +kernel
theorem d_X_even_13 : decode zy_X_even.2.1 13 = .ok (.iconst 0, 1) := by decide +kernel
theorem d_X_even_14 : decode zy_X_even.2.1 14 = .ok (.aaload, 1) := by decide +kernel
theorem d_X_even_15 : decode zy_X_even.2.1 15 = .ok (.getfield 167, 3) := by decide +kernel
theorem d_X_even_18 : decode zy_X_even.2.1 18 = .ok (.istore_n 1, 1) := by decide +kernel
theorem d_X_even_19 : decode zy_X_even.2.1 19 = .ok (.aload_n 0, 1) := by decide +kernel
theorem d_X_even_20 : decode zy_X_even.2.1 20 = .ok (.getfield 18, 3) := by decide +kernel
theorem d_X_even_23 : decode zy_X_even.2.1 23 = .ok (.iconst 0, 1) := by decide +kernel
theorem d_X_even_24 : decode zy_X_even.2.1 24 = .ok (.aaload, 1) := by decide +kernel
theorem d_X_even_25 : decode zy_X_even.2.1 25 = .ok (.getfield 167, 3) := by decide +kernel
theorem d_X_even_28 : decode zy_X_even.2.1 28 = .ok (.istore_n 2, 1) := by decide +kernel
theorem d_X_even_29 : decode zy_X_even.2.1 29 = .ok (.iconst 1, 1) := by decide +kernel
theorem d_X_even_30 : decode zy_X_even.2.1 30 = .ok (.istore_n 3, 1) := by decide +kernel
theorem d_X_even_31 : decode zy_X_even.2.1 31 = .ok (.iload_n 3, 1) := by decide +kernel
theorem d_X_even_32 : decode zy_X_even.2.1 32 = .ok (.aload_n 0, 1) := by decide +kernel
theorem d_X_even_33 : decode zy_X_even.2.1 33 = .ok (.getfield 22, 3) := by decide +kernel
theorem d_X_even_36 : decode zy_X_even.2.1 36 = .ok (.if_icmp .ge (37), 3) := by decide +kernel
theorem d_X_even_39 : decode zy_X_even.2.1 39 = .ok (.iload_n 1, 1) := by decide +kernel
theorem d_X_even_40 : decode zy_X_even.2.1 40 = .ok (.aload_n 0, 1) := by decide +kernel
theorem d_X_even_41 : decode zy_X_even.2.1 41 = .ok (.getfield 18, 3) := by decide +kernel
theorem d_X_even_44 : decode zy_X_even.2.1 44 = .ok (.iload_n 3, 1) := by decide +kernel
theorem d_X_even_45 : decode zy_X_even.2.1 45 = .ok (.aaload, 1) := by decide +kernel
theorem d_X_even_46 : decode zy_X_even.2.1 46 = .ok (.getfield 167, 3) := by decide +kernel
theorem d_X_even_49 : decode zy_X_even.2.1 49 = .ok (.invokestatic 259, 3) := by decide +kernel
theorem d_X_even_52 : decode zy_X_even.2.1 52 = .ok (.istore_n 1, 1) := by decide +kernel
theorem d_X_even_53 : decode zy_X_even.2.1 53 = .ok (.iload_n 2, 1) := by decide +kernel
theorem d_X_even_54 : decode zy_X_even.2.1 54 = .ok (.aload_n 0, 1) := by decide +kernel
theorem d_X_even_55 : decode zy_X_even.2.1 55 = .ok (.getfield 18, 3) := by decide +kernel
theorem d_X_even_58 : decode zy_X_even.2.1 58 = .ok (.iload_n 3, 1) := by decide +kernel
theorem d_X_even_59 : decode zy_X_even.2.1 59 = .ok (.aaload, 1) := by decide +kernel
theorem d_X_even_60 : decode zy_X_even.2.1 60 = .ok (.getfield 167, 3) := by decide +kernel
theorem d_X_even_63 : decode zy_X_even.2.1 63 = .ok (.invokestatic 264, 3) := by decide +kernel
theorem d_X_even_66 : decode zy_X_even.2.1 66 = .ok (.istore_n 2, 1) := by decide +kernel
theorem d_X_even_67 : decode zy_X_even.2.1 67 = .ok (.iinc 3 1, 3) := by decide +kernel
theorem d_X_even_70 : decode zy_X_even.2.1 70 = .ok (.goto (-39), 3) := by decide +kernel
theorem d_X_even_73 : decode zy_X_even.2.1 73 = .ok (.iload_n 1, 1) := by decide +kernel
theorem d_X_even_74 : decode zy_X_even.2.1 74 = .ok (.iload_n 2, 1) := by decide +kernel
theorem d_X_even_75 : decode zy_X_even.2.1 75 = .ok (.isub, 1) := by decide +kernel
theorem d_X_even_76 : decode zy_X_even.2.1 76 = .ok (.ireturn, 1) := by decide +kernel
theorem d_X_feed_0 : decode zy_X_feed.2.1 0 = .ok (.iload_n 1, 1) := by decide +kernel
theorem d_X_feed_1 : decode zy_X_feed.2.1 1 = .ok (.iconst 1, 1) := by decide +kernel
theorem d_X_feed_2 : decode zy_X_feed.2.1 2 = .ok (.if_icmp .lt (9), 3) := by decide +kernel
theorem d_X_feed_5 : decode zy_X_feed.2.1 5 = .ok (.iload_n 1, 1) := by decide +kernel
theorem d_X_feed_6 : decode zy_X_feed.2.1 6 = .ok (.bipush 8, 2) := by decide +kernel
theorem d_X_feed_8 : decode zy_X_feed.2.1 8 = .ok (.if_icmp .le (6), 3) := by decide +kernel
theorem d_X_feed_11 : decode zy_X_feed.2.1 11 = .ok (.bipush (-2), 2) := by decide +kernel
theorem d_X_feed_13 : decode zy_X_feed.2.1 13 = .ok (.ireturn, 1) := by decide +kernel
theorem d_X_feed_14 : decode zy_X_feed.2.1 14 = .ok (.aload_n 0, 1) := by decide +kernel
theorem d_X_feed_15 : decode zy_X_feed.2.1 15 = .ok (.getfield 90, 3) := by decide +kernel
theorem d_X_feed_18 : decode zy_X_feed.2.1 18 = .ok (.getfield 181, 3) := by decide +kernel
theorem d_X_feed_21 : decode zy_X_feed.2.1 21 = .ok (.iload_n 1, 1) := by decide +kernel
theorem d_X_feed_22 : decode zy_X_feed.2.1 22 = .ok (.iadd, 1) := by decide +kernel
theorem d_X_feed_23 : decode zy_X_feed.2.1 23 = .ok (.sipush 160, 3) := by decide +kernel
theorem d_X_feed_26 : decode zy_X_feed.2.1 26 = .ok (.if_icmp .le (6), 3) := by decide +kernel
theorem d_X_feed_29 : decode zy_X_feed.2.1 29 = .ok (.bipush (-4), 2) := by decide +kernel
theorem d_X_feed_31 : decode zy_X_feed.2.1 31 = .ok (.ireturn, 1) := by decide +kernel
theorem d_X_feed_32 : decode zy_X_feed.2.1 32 = .ok (.iconst 0, 1) := by decide +kernel
theorem d_X_feed_33 : decode zy_X_feed.2.1 33 = .ok (.istore 4, 2) := by decide +kernel
theorem d_X_feed_35 : decode zy_X_feed.2.1 35 = .ok (.iload 4, 2) := by decide +kernel
theorem d_X_feed_37 : decode zy_X_feed.2.1 37 = .ok (.iload_n 1, 1) := by decide +kernel
theorem d_X_feed_38 : decode zy_X_feed.2.1 38 = .ok (.if_icmp .ge (28), 3) := by decide +kernel
theorem d_X_feed_41 : decode zy_X_feed.2.1 41 = .ok (.aload_n 0, 1) := by decide +kernel
theorem d_X_feed_42 : decode zy_X_feed.2.1 42 = .ok (.getfield 90, 3) := by decide +kernel
theorem d_X_feed_45 : decode zy_X_feed.2.1 45 = .ok (.lload_n 2, 1) := by decide +kernel
theorem d_X_feed_46 : decode zy_X_feed.2.1 46 = .ok (.bipush 8, 2) := by decide +kernel
theorem d_X_feed_48 : decode zy_X_feed.2.1 48 = .ok (.iload 4, 2) := by decide +kernel
theorem d_X_feed_50 : decode zy_X_feed.2.1 50 = .ok (.imul, 1) := by decide +kernel
theorem d_X_feed_51 : decode zy_X_feed.2.1 51 = .ok (.lushr, 1) := by decide +kernel
theorem d_X_feed_52 : decode zy_X_feed.2.1 52 = .ok (.l2i, 1) := by decide +kernel
theorem d_X_feed_53 : decode zy_X_feed.2.1 53 = .ok (.sipush 255, 3) := by decide +kernel
theorem d_X_feed_56 : decode zy_X_feed.2.1 56 = .ok (.iand, 1) := by decide +kernel
theorem d_X_feed_57 : decode zy_X_feed.2.1 57 = .ok (.invokevirtual 106, 3) := by decide +kernel
theorem d_X_feed_60 : decode zy_X_feed.2.1 60 = .ok (.iinc 4 1, 3) := by decide +kernel
theorem d_X_feed_63 : decode zy_X_feed.2.1 63 = .ok (.goto (-28), 3) := by decide +kernel
theorem d_X_feed_66 : decode zy_X_feed.2.1 66 = .ok (.aload_n 0, 1) := by decide +kernel
theorem d_X_feed_67 : decode zy_X_feed.2.1 67 = .ok (.getfield 90, 3) := by decide +kernel
theorem d_X_feed_70 : decode zy_X_feed.2.1 70 = .ok (.getfield 181, 3) := by decide +kernel
theorem d_X_feed_73 : decode zy_X_feed.2.1 73 = .ok (.ireturn, 1) := by decide +kernel
theorem d_X_hire_0 : decode zy_X_hire.2.1 0 = .ok (.iload_n 1, 1) := by decide +kernel
theorem d_X_hire_1 : decode zy_X_hire.2.1 1 = .ok (.ifCond .lt (27), 3) := by decide +kernel
theorem d_X_hire_4 : decode zy_X_hire.2.1 4 = .ok (.iload_n 1, 1) := by decide +kernel
theorem d_X_hire_5 : decode zy_X_hire.2.1 5 = .ok (.bipush 6, 2) := by decide +kernel
theorem d_X_hire_7 : decode zy_X_hire.2.1 7 = .ok (.if_icmp .ge (21), 3) := by decide +kernel
theorem d_X_hire_10 : decode zy_X_hire.2.1 10 = .ok (.iload_n 2, 1) := by decide +kernel
theorem d_X_hire_11 : decode zy_X_hire.2.1 11 = .ok (.ifCond .lt (17), 3) := by decide +kernel
theorem d_X_hire_14 : decode zy_X_hire.2.1 14 = .ok (.aload_n 0, 1) := by decide +kernel
theorem d_X_hire_15 : decode zy_X_hire.2.1 15 = .ok (.getfield 10, 3) := by decide +kernel
theorem d_X_hire_18 : decode zy_X_hire.2.1 18 = .ok (.iload_n 2, 1) := by decide +kernel
theorem d_X_hire_19 : decode zy_X_hire.2.1 19 = .ok (.bipush 100, 2) := by decide +kernel
theorem d_X_hire_21 : decode zy_X_hire.2.1 21 = .ok (.idiv, 1) := by decide +kernel
theorem d_X_hire_22 : decode zy_X_hire.2.1 22 = .ok (.invokevirtual 132, 3) := by decide +kernel
theorem d_X_hire_25 : decode zy_X_hire.2.1 25 = .ok (.ifCond .ne (6), 3) := by decide +kernel
theorem d_X_hire_28 : decode zy_X_hire.2.1 28 = .ok (.bipush (-2), 2) := by decide +kernel
theorem d_X_hire_30 : decode zy_X_hire.2.1 30 = .ok (.ireturn, 1) := by decide +kernel
theorem d_X_hire_31 : decode zy_X_hire.2.1 31 = .ok (.aload_n 0, 1) := by decide +kernel
theorem d_X_hire_32 : decode zy_X_hire.2.1 32 = .ok (.getfield 22, 3) := by decide +kernel
theorem d_X_hire_35 : decode zy_X_hire.2.1 35 = .ok (.bipush 7, 2) := by decide +kernel
theorem d_X_hire_37 : decode zy_X_hire.2.1 37 = .ok (.if_icmp .lt (6), 3) := by decide +kernel
theorem d_X_hire_40 : decode zy_X_hire.2.1 40 = .ok (.bipush (-4), 2) := by decide +kernel
theorem d_X_hire_42 : decode zy_X_hire.2.1 42 = .ok (.ireturn, 1) := by decide +kernel
theorem d_X_hire_43 : decode zy_X_hire.2.1 43 = .ok (.aload_n 0, 1) := by decide +kernel
theorem d_X_hire_44 : decode zy_X_hire.2.1 44 = .ok (.getfield 18, 3) := by decide +kernel
theorem d_X_hire_47 : decode zy_X_hire.2.1 47 = .ok (.aload_n 0, 1) := by decide +kernel
theorem d_X_hire_48 : decode zy_X_hire.2.1 48 = .ok (.getfield 22, 3) := by decide +kernel
theorem d_X_hire_51 : decode zy_X_hire.2.1 51 = .ok (.aaload, 1) := by decide +kernel
theorem d_X_hire_52 : decode zy_X_hire.2.1 52 = .ok (.iload_n 1, 1) := by decide +kernel
theorem d_X_hire_53 : decode zy_X_hire.2.1 53 = .ok (.iload_n 2, 1) := by decide +kernel
theorem d_X_hire_54 : decode zy_X_hire.2.1 54 = .ok (.bipush 100, 2) := by decide +kernel
theorem d_X_hire_56 : decode zy_X_hire.2.1 56 = .ok (.idiv, 1) := by decide +kernel
theorem d_X_hire_57 : decode zy_X_hire.2.1 57 = .ok (.iload_n 2, 1) := by decide +kernel
theorem d_X_hire_58 : decode zy_X_hire.2.1 58 = .ok (.bipush 10, 2) := by decide +kernel
theorem d_X_hire_60 : decode zy_X_hire.2.1 60 = .ok (.idiv, 1) := by decide +kernel
theorem d_X_hire_61 : decode zy_X_hire.2.1 61 = .ok (.bipush 10, 2) := by decide +kernel
theorem d_X_hire_63 : decode zy_X_hire.2.1 63 = .ok (.irem, 1) := by decide +kernel
theorem d_X_hire_64 : decode zy_X_hire.2.1 64 = .ok (.iload_n 2, 1) := by decide +kernel
theorem d_X_hire_65 : decode zy_X_hire.2.1 65 = .ok (.bipush 10, 2) := by decide +kernel
theorem d_X_hire_67 : decode zy_X_hire.2.1 67 = .ok (.irem, 1) := by decide +kernel
theorem d_X_hire_68 : decode zy_X_hire.2.1 68 = .ok (.invokevirtual 331, 3) := by decide +kernel
theorem d_X_hire_71 : decode zy_X_hire.2.1 71 = .ok (.aload_n 0, 1) := by decide +kernel
theorem d_X_hire_72 : decode zy_X_hire.2.1 72 = .ok (.dup, 1) := by decide +kernel
theorem d_X_hire_73 : decode zy_X_hire.2.1 73 = .ok (.getfield 22, 3) := by decide +kernel
theorem d_X_hire_76 : decode zy_X_hire.2.1 76 = .ok (.iconst 1, 1) := by decide +kernel
theorem d_X_hire_77 : decode zy_X_hire.2.1 77 = .ok (.iadd, 1) := by decide +kernel
theorem d_X_hire_78 : decode zy_X_hire.2.1 78 = .ok (.putfield 22, 3) := by decide +kernel
theorem d_X_hire_81 : decode zy_X_hire.2.1 81 = .ok (.aload_n 0, 1) := by decide +kernel
theorem d_X_hire_82 : decode zy_X_hire.2.1 82 = .ok (.getfield 22, 3) := by decide +kernel
theorem d_X_hire_85 : decode zy_X_hire.2.1 85 = .ok (.iconst 1, 1) := by decide +kernel
theorem d_X_hire_86 : decode zy_X_hire.2.1 86 = .ok (.isub, 1) := by decide +kernel
theorem d_X_hire_87 : decode zy_X_hire.2.1 87 = .ok (.ireturn, 1) := by decide +kernel
theorem d_X_isCrewSet_0 : decode zy_X_isCrewSet.2.1 0 = .ok (.iload_n 1, 1) := by decide +kernel
theorem d_X_isCrewSet_1 : decode zy_X_isCrewSet.2.1 1 = .ok (.ifCond .lt (15), 3) := by decide +kernel
theorem d_X_isCrewSet_4 : decode zy_X_isCrewSet.2.1 4 = .ok (.iload_n 1, 1) := by decide +kernel
theorem d_X_isCrewSet_5 : decode zy_X_isCrewSet.2.1 5 = .ok (.aload_n 0, 1) := by decide +kernel
theorem d_X_isCrewSet_6 : decode zy_X_isCrewSet.2.1 6 = .ok (.invokevirtual 197, 3) := by decide +kernel
theorem d_X_isCrewSet_9 : decode zy_X_isCrewSet.2.1 9 = .ok (.if_icmp .gt (7), 3) := by decide +kernel
theorem d_X_isCrewSet_12 : decode zy_X_isCrewSet.2.1 12 = .ok (.iconst 1, 1) := by decide +kernel
theorem d_X_isCrewSet_13 : decode zy_X_isCrewSet.2.1 13 = .ok (.goto (4), 3) := by decide +kernel
theorem d_X_isCrewSet_16 : decode zy_X_isCrewSet.2.1 16 = .ok (.iconst 0, 1) := by decide +kernel
theorem d_X_isCrewSet_17 : decode zy_X_isCrewSet.2.1 17 = .ok (.ireturn, 1) := by decide +kernel
theorem d_X_lessonsOfAll_0 : decode zy_X_lessonsOfAll.2.1 0 = .ok (.iconst 0, 1) := by decide +kernel
theorem d_X_lessonsOfAll_1 : decode zy_X_lessonsOfAll.2.1 1 = .ok (.istore_n 1, 1) := by decide +kernel
theorem d_X_lessonsOfAll_2 : decode zy_X_lessonsOfAll.2.1 2 = .ok (.iconst 0, 1) := by decide +kernel
theorem d_X_lessonsOfAll_3 : decode zy_X_lessonsOfAll.2.1 3 = .ok (.istore_n 2, 1) := by decide +kernel
theorem d_X_lessonsOfAll_4 : decode zy_X_lessonsOfAll.2.1 4 = .ok (.iload_n 2, 1) := by decide +kernel
theorem d_X_lessonsOfAll_5 : decode zy_X_lessonsOfAll.2.1 5 = .ok (.aload_n 0, 1) := by decide +kernel
theorem d_X_lessonsOfAll_6 : decode zy_X_lessonsOfAll.2.1 6 = .ok (.getfield 22, 3) := by decide +kernel
theorem d_X_lessonsOfAll_9 : decode zy_X_lessonsOfAll.2.1 9 = .ok (.if_icmp .ge (21), 3) := by decide +kernel
theorem d_X_lessonsOfAll_12 : decode zy_X_lessonsOfAll.2.1 12 = .ok (.iload_n 1, 1) := by decide +kernel
theorem d_X_lessonsOfAll_13 : decode zy_X_lessonsOfAll.2.1 13 = .ok (.aload_n 0, 1) := by decide +kernel
theorem d_X_lessonsOfAll_14 : decode zy_X_lessonsOfAll.2.1 14 = .ok (.getfield 18, 3) := by decide +kernel
theorem d_X_lessonsOfAll_17 : decode zy_X_lessonsOfAll.2.1 17 = .ok (.iload_n 2, 1) := by decide +kernel
theorem d_X_lessonsOfAll_18 : decode zy_X_lessonsOfAll.2.1 18 = .ok (.aaload, 1) := by decide +kernel
theorem d_X_lessonsOfAll_19 : decode zy_X_lessonsOfAll.2.1 19 = .ok (.invokevirtual 144, 3) := by decide +kernel
theorem d_X_lessonsOfAll_22 : decode zy_X_lessonsOfAll.2.1 22 = .ok (.iadd, 1) := by decide +kernel
theorem d_X_lessonsOfAll_23 : decode zy_X_lessonsOfAll.2.1 23 = .ok (.istore_n 1, 1) := by decide +kernel
theorem d_X_lessonsOfAll_24 : decode zy_X_lessonsOfAll.2.1 24 = .ok (.iinc 2 1, 3) := by decide +kernel
theorem d_X_lessonsOfAll_27 : decode zy_X_lessonsOfAll.2.1 27 = .ok (.goto (-23), 3) := by decide +kernel
theorem d_X_lessonsOfAll_30 : decode zy_X_lessonsOfAll.2.1 30 = .ok (.iload_n 1, 1) := by decide +kernel
theorem d_X_lessonsOfAll_31 : decode zy_X_lessonsOfAll.2.1 31 = .ok (.ireturn, 1) := by decide +kernel
theorem d_X_post_0 : decode zy_X_post.2.1 0 = .ok (.iload_n 1, 1) := by decide +kernel
theorem d_X_post_1 : decode zy_X_post.2.1 1 = .ok (.invokestatic 114, 3) := by decide +kernel
theorem d_X_post_4 : decode zy_X_post.2.1 4 = .ok (.ifCond .eq (13), 3) := by decide +kernel
theorem d_X_post_7 : decode zy_X_post.2.1 7 = .ok (.iload_n 2, 1) := by decide +kernel
theorem d_X_post_8 : decode zy_X_post.2.1 8 = .ok (.ifCond .lt (9), 3) := by decide +kernel
theorem d_X_post_11 : decode zy_X_post.2.1 11 = .ok (.iload_n 2, 1) := by decide +kernel
theorem d_X_post_12 : decode zy_X_post.2.1 12 = .ok (.bipush 99, 2) := by decide +kernel
theorem d_X_post_14 : decode zy_X_post.2.1 14 = .ok (.if_icmp .le (6), 3) := by decide +kernel
theorem d_X_post_17 : decode zy_X_post.2.1 17 = .ok (.bipush (-2), 2) := by decide +kernel
theorem d_X_post_19 : decode zy_X_post.2.1 19 = .ok (.ireturn, 1) := by decide +kernel
theorem d_X_post_20 : decode zy_X_post.2.1 20 = .ok (.aload_n 0, 1) := by decide +kernel
theorem d_X_post_21 : decode zy_X_post.2.1 21 = .ok (.getfield 10, 3) := by decide +kernel
theorem d_X_post_24 : decode zy_X_post.2.1 24 = .ok (.iload_n 1, 1) := by decide +kernel
theorem d_X_post_25 : decode zy_X_post.2.1 25 = .ok (.iconst 1, 1) := by decide +kernel
theorem d_X_post_26 : decode zy_X_post.2.1 26 = .ok (.if_icmp .ne (7), 3) := by decide +kernel
theorem d_X_post_29 : decode zy_X_post.2.1 29 = .ok (.iconst 1, 1) := by decide +kernel
theorem d_X_post_30 : decode zy_X_post.2.1 30 = .ok (.goto (4), 3) := by decide +kernel
theorem d_X_post_33 : decode zy_X_post.2.1 33 = .ok (.iconst 0, 1) := by decide +kernel
theorem d_X_post_34 : decode zy_X_post.2.1 34 = .ok (.iload_n 2, 1) := by decide +kernel
theorem d_X_post_35 : decode zy_X_post.2.1 35 = .ok (.invokevirtual 118, 3) := by decide +kernel
theorem d_X_post_38 : decode zy_X_post.2.1 38 = .ok (.ireturn, 1) := by decide +kernel
theorem d_X_taken_0 : decode zy_X_taken.2.1 0 = .ok (.iload_n 2, 1) := by decide +kernel
theorem d_X_taken_1 : decode zy_X_taken.2.1 1 = .ok (.ifCond .lt (9), 3) := by decide +kernel
theorem d_X_taken_4 : decode zy_X_taken.2.1 4 = .ok (.iload_n 2, 1) := by decide +kernel
theorem d_X_taken_5 : decode zy_X_taken.2.1 5 = .ok (.bipush 6, 2) := by decide +kernel
theorem d_X_taken_7 : decode zy_X_taken.2.1 7 = .ok (.if_icmp .lt (6), 3) := by decide +kernel
theorem d_X_taken_10 : decode zy_X_taken.2.1 10 = .ok (.bipush (-2), 2) := by decide +kernel
theorem d_X_taken_12 : decode zy_X_taken.2.1 12 = .ok (.ireturn, 1) := by decide +kernel
theorem d_X_taken_13 : decode zy_X_taken.2.1 13 = .ok (.aload_n 0, 1) := by decide +kernel
theorem d_X_taken_14 : decode zy_X_taken.2.1 14 = .ok (.iload_n 1, 1) := by decide +kernel
theorem d_X_taken_15 : decode zy_X_taken.2.1 15 = .ok (.invokevirtual 129, 3) := by decide +kernel
theorem d_X_taken_18 : decode zy_X_taken.2.1 18 = .ok (.ifCond .ne (6), 3) := by decide +kernel
theorem d_X_taken_21 : decode zy_X_taken.2.1 21 = .ok (.bipush (-11), 2) := by decide +kernel
theorem d_X_taken_23 : decode zy_X_taken.2.1 23 = .ok (.ireturn, 1) := by decide +kernel
theorem d_X_taken_24 : decode zy_X_taken.2.1 24 = .ok (.aload_n 0, 1) := by decide +kernel
theorem d_X_taken_25 : decode zy_X_taken.2.1 25 = .ok (.getfield 18, 3) := by decide +kernel
theorem d_X_taken_28 : decode zy_X_taken.2.1 28 = .ok (.iload_n 1, 1) := by decide +kernel
theorem d_X_taken_29 : decode zy_X_taken.2.1 29 = .ok (.aaload, 1) := by decide +kernel
theorem d_X_taken_30 : decode zy_X_taken.2.1 30 = .ok (.iload_n 2, 1) := by decide +kernel
theorem d_X_taken_31 : decode zy_X_taken.2.1 31 = .ok (.invokevirtual 328, 3) := by decide +kernel
theorem d_X_taken_34 : decode zy_X_taken.2.1 34 = .ok (.ifCond .eq (15), 3) := by decide +kernel
theorem d_X_taken_37 : decode zy_X_taken.2.1 37 = .ok (.aload_n 0, 1) := by decide +kernel
theorem d_X_taken_38 : decode zy_X_taken.2.1 38 = .ok (.getfield 18, 3) := by decide +kernel
theorem d_X_taken_41 : decode zy_X_taken.2.1 41 = .ok (.iload_n 1, 1) := by decide +kernel
theorem d_X_taken_42 : decode zy_X_taken.2.1 42 = .ok (.aaload, 1) := by decide +kernel
theorem d_X_taken_43 : decode zy_X_taken.2.1 43 = .ok (.getfield 154, 3) := by decide +kernel
theorem d_X_taken_46 : decode zy_X_taken.2.1 46 = .ok (.goto (5), 3) := by decide +kernel
theorem d_X_taken_49 : decode zy_X_taken.2.1 49 = .ok (.bipush (-13), 2) := by decide +kernel
theorem d_X_taken_51 : decode zy_X_taken.2.1 51 = .ok (.ireturn, 1) := by decide +kernel
theorem d_X_teach_0 : decode zy_X_teach.2.1 0 = .ok (.aload_n 0, 1) := by decide +kernel
theorem d_X_teach_1 : decode zy_X_teach.2.1 1 = .ok (.iload_n 1, 1) := by decide +kernel
theorem d_X_teach_2 : decode zy_X_teach.2.1 2 = .ok (.invokevirtual 129, 3) := by decide +kernel
theorem d_X_teach_5 : decode zy_X_teach.2.1 5 = .ok (.ifCond .eq (14), 3) := by decide +kernel
theorem d_X_teach_8 : decode zy_X_teach.2.1 8 = .ok (.aload_n 0, 1) := by decide +kernel
theorem d_X_teach_9 : decode zy_X_teach.2.1 9 = .ok (.getfield 10, 3) := by decide +kernel
theorem d_X_teach_12 : decode zy_X_teach.2.1 12 = .ok (.iload_n 2, 1) := by decide +kernel
theorem d_X_teach_13 : decode zy_X_teach.2.1 13 = .ok (.invokevirtual 132, 3) := by decide +kernel
theorem d_X_teach_16 : decode zy_X_teach.2.1 16 = .ok (.ifCond .ne (6), 3) := by decide +kernel
theorem d_X_teach_19 : decode zy_X_teach.2.1 19 = .ok (.bipush (-2), 2) := by decide +kernel
theorem d_X_teach_21 : decode zy_X_teach.2.1 21 = .ok (.ireturn, 1) := by decide +kernel
theorem d_X_teach_22 : decode zy_X_teach.2.1 22 = .ok (.aload_n 0, 1) := by decide +kernel
theorem d_X_teach_23 : decode zy_X_teach.2.1 23 = .ok (.getfield 18, 3) := by decide +kernel
theorem d_X_teach_26 : decode zy_X_teach.2.1 26 = .ok (.iload_n 1, 1) := by decide +kernel
theorem d_X_teach_27 : decode zy_X_teach.2.1 27 = .ok (.aaload, 1) := by decide +kernel
theorem d_X_teach_28 : decode zy_X_teach.2.1 28 = .ok (.astore_n 3, 1) := by decide +kernel
theorem d_X_teach_29 : decode zy_X_teach.2.1 29 = .ok (.aload_n 3, 1) := by decide +kernel
theorem d_X_teach_30 : decode zy_X_teach.2.1 30 = .ok (.iload_n 2, 1) := by decide +kernel
theorem d_X_teach_31 : decode zy_X_teach.2.1 31 = .ok (.invokevirtual 135, 3) := by decide +kernel
theorem d_X_teach_34 : decode zy_X_teach.2.1 34 = .ok (.ifCond .ne (11), 3) := by decide +kernel
theorem d_X_teach_37 : decode zy_X_teach.2.1 37 = .ok (.aload_n 3, 1) := by decide +kernel
theorem d_X_teach_38 : decode zy_X_teach.2.1 38 = .ok (.getfield 138, 3) := by decide +kernel
theorem d_X_teach_41 : decode zy_X_teach.2.1 41 = .ok (.iload_n 2, 1) := by decide +kernel
theorem d_X_teach_42 : decode zy_X_teach.2.1 42 = .ok (.if_icmp .ne (6), 3) := by decide +kernel
theorem d_X_teach_45 : decode zy_X_teach.2.1 45 = .ok (.bipush (-3), 2) := by decide +kernel
theorem d_X_teach_47 : decode zy_X_teach.2.1 47 = .ok (.ireturn, 1) := by decide +kernel
theorem d_X_teach_48 : decode zy_X_teach.2.1 48 = .ok (.aload_n 3, 1) := by decide +kernel
theorem d_X_teach_49 : decode zy_X_teach.2.1 49 = .ok (.getfield 141, 3) := by decide +kernel
theorem d_X_teach_52 : decode zy_X_teach.2.1 52 = .ok (.iload_n 2, 1) := by decide +kernel
theorem d_X_teach_53 : decode zy_X_teach.2.1 53 = .ok (.aload_n 0, 1) := by decide +kernel
theorem d_X_teach_54 : decode zy_X_teach.2.1 54 = .ok (.getfield 10, 3) := by decide +kernel
theorem d_X_teach_57 : decode zy_X_teach.2.1 57 = .ok (.getfield 126, 3) := by decide +kernel
theorem d_X_teach_60 : decode zy_X_teach.2.1 60 = .ok (.iastore, 1) := by decide +kernel
theorem d_X_teach_61 : decode zy_X_teach.2.1 61 = .ok (.aload_n 3, 1) := by decide +kernel
theorem d_X_teach_62 : decode zy_X_teach.2.1 62 = .ok (.invokevirtual 144, 3) := by decide +kernel
theorem d_X_teach_65 : decode zy_X_teach.2.1 65 = .ok (.ireturn, 1) := by decide +kernel
theorem d_Course_seekOne_0 : decode zy_Course_seekOne.2.1 0 = .ok (.iconst 0, 1) := by decide +kernel
theorem d_Course_seekOne_1 : decode zy_Course_seekOne.2.1 1 = .ok (.istore_n 3, 1) := by decide +kernel
theorem d_Course_seekOne_2 : decode zy_Course_seekOne.2.1 2 = .ok (.iload_n 3, 1) := by decide +kernel
theorem d_Course_seekOne_3 : decode zy_Course_seekOne.2.1 3 = .ok (.aload_n 0, 1) := by decide +kernel
theorem d_Course_seekOne_4 : decode zy_Course_seekOne.2.1 4 = .ok (.getfield 9, 3) := by decide +kernel
theorem d_Course_seekOne_7 : decode zy_Course_seekOne.2.1 7 = .ok (.if_icmp .ge (43), 3) := by decide +kernel
theorem d_Course_seekOne_10 : decode zy_Course_seekOne.2.1 10 = .ok (.lload_n 1, 1) := by decide +kernel
theorem d_Course_seekOne_11 : decode zy_Course_seekOne.2.1 11 = .ok (.aload_n 0, 1) := by decide +kernel
theorem d_Course_seekOne_12 : decode zy_Course_seekOne.2.1 12 = .ok (.getfield 22, 3) := by decide +kernel
theorem d_Course_seekOne_15 : decode zy_Course_seekOne.2.1 15 = .ok (.iload_n 3, 1) := by decide +kernel
theorem d_Course_seekOne_16 : decode zy_Course_seekOne.2.1 16 = .ok (.laload, 1) := by decide +kernel
theorem d_Course_seekOne_17 : decode zy_Course_seekOne.2.1 17 = .ok (.ldc2_w 43, 3) := by decide +kernel
theorem d_Course_seekOne_20 : decode zy_Course_seekOne.2.1 20 = .ok (.lxor, 1) := by decide +kernel
theorem d_Course_seekOne_21 : decode zy_Course_seekOne.2.1 21 = .ok (.land, 1) := by decide +kernel
theorem d_Course_seekOne_22 : decode zy_Course_seekOne.2.1 22 = .ok (.lconst 0, 1) := by decide +kernel
theorem d_Course_seekOne_23 : decode zy_Course_seekOne.2.1 23 = .ok (.lcmp, 1) := by decide +kernel
theorem d_Course_seekOne_24 : decode zy_Course_seekOne.2.1 24 = .ok (.ifCond .ne (20), 3) := by decide +kernel
theorem d_Course_seekOne_27 : decode zy_Course_seekOne.2.1 27 = .ok (.aload_n 0, 1) := by decide +kernel
theorem d_Course_seekOne_28 : decode zy_Course_seekOne.2.1 28 = .ok (.iconst 1, 1) := by decide +kernel
theorem d_Course_seekOne_29 : decode zy_Course_seekOne.2.1 29 = .ok (.aload_n 0, 1) := by decide +kernel
theorem d_Course_seekOne_30 : decode zy_Course_seekOne.2.1 30 = .ok (.getfield 19, 3) := by decide +kernel
theorem d_Course_seekOne_33 : decode zy_Course_seekOne.2.1 33 = .ok (.iload_n 3, 1) := by decide +kernel
theorem d_Course_seekOne_34 : decode zy_Course_seekOne.2.1 34 = .ok (.iaload, 1) := by decide +kernel
theorem d_Course_seekOne_35 : decode zy_Course_seekOne.2.1 35 = .ok (.aload_n 0, 1) := by decide +kernel
theorem d_Course_seekOne_36 : decode zy_Course_seekOne.2.1 36 = .ok (.getfield 15, 3) := by decide +kernel
theorem d_Course_seekOne_39 : decode zy_Course_seekOne.2.1 39 = .ok (.iload_n 3, 1) := by decide +kernel
theorem d_Course_seekOne_40 : decode zy_Course_seekOne.2.1 40 = .ok (.iaload, 1) := by decide +kernel
theorem d_Course_seekOne_41 : decode zy_Course_seekOne.2.1 41 = .ok (.invokevirtual 45, 3) := by decide +kernel
theorem d_Course_seekOne_44 : decode zy_Course_seekOne.2.1 44 = .ok (.iinc 3 1, 3) := by decide +kernel
theorem d_Course_seekOne_47 : decode zy_Course_seekOne.2.1 47 = .ok (.goto (-45), 3) := by decide +kernel
theorem d_Course_seekOne_50 : decode zy_Course_seekOne.2.1 50 = .ok (.return_, 1) := by decide +kernel
theorem d_Course_seekTwo_0 : decode zy_Course_seekTwo.2.1 0 = .ok (.iconst 0, 1) := by decide +kernel
theorem d_Course_seekTwo_1 : decode zy_Course_seekTwo.2.1 1 = .ok (.istore 5, 2) := by decide +kernel
theorem d_Course_seekTwo_3 : decode zy_Course_seekTwo.2.1 3 = .ok (.iload 5, 2) := by decide +kernel
theorem d_Course_seekTwo_5 : decode zy_Course_seekTwo.2.1 5 = .ok (.aload_n 0, 1) := by decide +kernel
theorem d_Course_seekTwo_6 : decode zy_Course_seekTwo.2.1 6 = .ok (.getfield 9, 3) := by decide +kernel
theorem d_Course_seekTwo_9 : decode zy_Course_seekTwo.2.1 9 = .ok (.if_icmp .ge (151), 3) := by decide +kernel
theorem d_Course_seekTwo_12 : decode zy_Course_seekTwo.2.1 12 = .ok (.iload 5, 2) := by decide +kernel
theorem d_Course_seekTwo_14 : decode zy_Course_seekTwo.2.1 14 = .ok (.iconst 1, 1) := by decide +kernel
theorem d_Course_seekTwo_15 : decode zy_Course_seekTwo.2.1 15 = .ok (.iadd, 1) := by decide +kernel
theorem d_Course_seekTwo_16 : decode zy_Course_seekTwo.2.1 16 = .ok (.istore 6, 2) := by decide +kernel
theorem d_Course_seekTwo_18 : decode zy_Course_seekTwo.2.1 18 = .ok (.iload 6, 2) := by decide +kernel
theorem d_Course_seekTwo_20 : decode zy_Course_seekTwo.2.1 20 = .ok (.aload_n 0, 1) := by decide +kernel
theorem d_Course_seekTwo_21 : decode zy_Course_seekTwo.2.1 21 = .ok (.getfield 9, 3) := by decide +kernel
theorem d_Course_seekTwo_24 : decode zy_Course_seekTwo.2.1 24 = .ok (.if_icmp .ge (130), 3) := by decide +kernel
theorem d_Course_seekTwo_27 : decode zy_Course_seekTwo.2.1 27 = .ok (.aload_n 0, 1) := by decide +kernel
theorem d_Course_seekTwo_28 : decode zy_Course_seekTwo.2.1 28 = .ok (.getfield 15, 3) := by decide +kernel
theorem d_Course_seekTwo_31 : decode zy_Course_seekTwo.2.1 31 = .ok (.iload 5, 2) := by decide +kernel
theorem d_Course_seekTwo_33 : decode zy_Course_seekTwo.2.1 33 = .ok (.iaload, 1) := by decide +kernel
theorem d_Course_seekTwo_34 : decode zy_Course_seekTwo.2.1 34 = .ok (.bipush 10, 2) := by decide +kernel
theorem d_Course_seekTwo_36 : decode zy_Course_seekTwo.2.1 36 = .ok (.idiv, 1) := by decide +kernel
theorem d_Course_seekTwo_37 : decode zy_Course_seekTwo.2.1 37 = .ok (.aload_n 0, 1) := by decide +kernel
theorem d_Course_seekTwo_38 : decode zy_Course_seekTwo.2.1 38 = .ok (.getfield 15, 3) := by decide +kernel
theorem d_Course_seekTwo_41 : decode zy_Course_seekTwo.2.1 41 = .ok (.iload 6, 2) := by decide +kernel
theorem d_Course_seekTwo_43 : decode zy_Course_seekTwo.2.1 43 = .ok (.iaload, 1) := by decide +kernel
theorem d_Course_seekTwo_44 : decode zy_Course_seekTwo.2.1 44 = .ok (.bipush 10, 2) := by decide +kernel
theorem d_Course_seekTwo_46 : decode zy_Course_seekTwo.2.1 46 = .ok (.idiv, 1) := by decide +kernel
theorem d_Course_seekTwo_47 : decode zy_Course_seekTwo.2.1 47 = .ok (.if_icmp .ne (7), 3) := by decide +kernel
theorem d_Course_seekTwo_50 : decode zy_Course_seekTwo.2.1 50 = .ok (.lconst 0, 1) := by decide +kernel
theorem d_Course_seekTwo_51 : decode zy_Course_seekTwo.2.1 51 = .ok (.goto (18), 3) := by decide +kernel
theorem d_Course_seekTwo_54 : decode zy_Course_seekTwo.2.1 54 = .ok (.aload_n 0, 1) := by decide +kernel
theorem d_Course_seekTwo_55 : decode zy_Course_seekTwo.2.1 55 = .ok (.getfield 22, 3) := by decide +kernel
theorem d_Course_seekTwo_58 : decode zy_Course_seekTwo.2.1 58 = .ok (.iload 5, 2) := by decide +kernel
theorem d_Course_seekTwo_60 : decode zy_Course_seekTwo.2.1 60 = .ok (.laload, 1) := by decide +kernel
theorem d_Course_seekTwo_61 : decode zy_Course_seekTwo.2.1 61 = .ok (.aload_n 0, 1) := by decide +kernel
theorem d_Course_seekTwo_62 : decode zy_Course_seekTwo.2.1 62 = .ok (.getfield 22, 3) := by decide +kernel
theorem d_Course_seekTwo_65 : decode zy_Course_seekTwo.2.1 65 = .ok (.iload 6, 2) := by decide +kernel
theorem d_Course_seekTwo_67 : decode zy_Course_seekTwo.2.1 67 = .ok (.laload, 1) := by decide +kernel
theorem d_Course_seekTwo_68 : decode zy_Course_seekTwo.2.1 68 = .ok (.land, 1) := by decide +kernel
theorem d_Course_seekTwo_69 : decode zy_Course_seekTwo.2.1 69 = .ok (.lstore 7, 2) := by decide +kernel
theorem d_Course_seekTwo_71 : decode zy_Course_seekTwo.2.1 71 = .ok (.lload_n 1, 1) := by decide +kernel
theorem d_Course_seekTwo_72 : decode zy_Course_seekTwo.2.1 72 = .ok (.aload_n 0, 1) := by decide +kernel
theorem d_Course_seekTwo_73 : decode zy_Course_seekTwo.2.1 73 = .ok (.getfield 22, 3) := by decide +kernel
theorem d_Course_seekTwo_76 : decode zy_Course_seekTwo.2.1 76 = .ok (.iload 5, 2) := by decide +kernel
theorem d_Course_seekTwo_78 : decode zy_Course_seekTwo.2.1 78 = .ok (.laload, 1) := by decide +kernel
theorem d_Course_seekTwo_79 : decode zy_Course_seekTwo.2.1 79 = .ok (.aload_n 0, 1) := by decide +kernel
theorem d_Course_seekTwo_80 : decode zy_Course_seekTwo.2.1 80 = .ok (.getfield 22, 3) := by decide +kernel
theorem d_Course_seekTwo_83 : decode zy_Course_seekTwo.2.1 83 = .ok (.iload 6, 2) := by decide +kernel
theorem d_Course_seekTwo_85 : decode zy_Course_seekTwo.2.1 85 = .ok (.laload, 1) := by decide +kernel
theorem d_Course_seekTwo_86 : decode zy_Course_seekTwo.2.1 86 = .ok (.lor, 1) := by decide +kernel
theorem d_Course_seekTwo_87 : decode zy_Course_seekTwo.2.1 87 = .ok (.ldc2_w 43, 3) := by decide +kernel
theorem d_Course_seekTwo_90 : decode zy_Course_seekTwo.2.1 90 = .ok (.lxor, 1) := by decide +kernel
theorem d_Course_seekTwo_91 : decode zy_Course_seekTwo.2.1 91 = .ok (.land, 1) := by decide +kernel
theorem d_Course_seekTwo_92 : decode zy_Course_seekTwo.2.1 92 = .ok (.lconst 0, 1) := by decide +kernel
theorem d_Course_seekTwo_93 : decode zy_Course_seekTwo.2.1 93 = .ok (.lcmp, 1) := by decide +kernel
theorem d_Course_seekTwo_94 : decode zy_Course_seekTwo.2.1 94 = .ok (.ifCond .ne (54), 3) := by decide +kernel
theorem d_Course_seekTwo_97 : decode zy_Course_seekTwo.2.1 97 = .ok (.lload_n 3, 1) := by decide +kernel
theorem d_Course_seekTwo_98 : decode zy_Course_seekTwo.2.1 98 = .ok (.lload 7, 2) := by decide +kernel
theorem d_Course_seekTwo_100 : decode zy_Course_seekTwo.2.1 100 = .ok (.ldc2_w 43, 3) := by decide +kernel
theorem d_Course_seekTwo_103 : decode zy_Course_seekTwo.2.1 103 = .ok (.lxor, 1) := by decide +kernel
theorem d_Course_seekTwo_104 : decode zy_Course_seekTwo.2.1 104 = .ok (.land, 1) := by decide +kernel
theorem d_Course_seekTwo_105 : decode zy_Course_seekTwo.2.1 105 = .ok (.lconst 0, 1) := by decide +kernel
theorem d_Course_seekTwo_106 : decode zy_Course_seekTwo.2.1 106 = .ok (.lcmp, 1) := by decide +kernel
theorem d_Course_seekTwo_107 : decode zy_Course_seekTwo.2.1 107 = .ok (.ifCond .ne (41), 3) := by decide +kernel
theorem d_Course_seekTwo_110 : decode zy_Course_seekTwo.2.1 110 = .ok (.aload_n 0, 1) := by decide +kernel
theorem d_Course_seekTwo_111 : decode zy_Course_seekTwo.2.1 111 = .ok (.iconst 2, 1) := by decide +kernel
theorem d_Course_seekTwo_112 : decode zy_Course_seekTwo.2.1 112 = .ok (.aload_n 0, 1) := by decide +kernel
theorem d_Course_seekTwo_113 : decode zy_Course_seekTwo.2.1 113 = .ok (.getfield 19, 3) := by decide +kernel
theorem d_Course_seekTwo_116 : decode zy_Course_seekTwo.2.1 116 = .ok (.iload 5, 2) := by decide +kernel
theorem d_Course_seekTwo_118 : decode zy_Course_seekTwo.2.1 118 = .ok (.iaload, 1) := by decide +kernel
theorem d_Course_seekTwo_119 : decode zy_Course_seekTwo.2.1 119 = .ok (.aload_n 0, 1) := by decide +kernel
theorem d_Course_seekTwo_120 : decode zy_Course_seekTwo.2.1 120 = .ok (.getfield 19, 3) := by decide +kernel
theorem d_Course_seekTwo_123 : decode zy_Course_seekTwo.2.1 123 = .ok (.iload 6, 2) := by decide +kernel
theorem d_Course_seekTwo_125 : decode zy_Course_seekTwo.2.1 125 = .ok (.iaload, 1) := by decide +kernel
theorem d_Course_seekTwo_126 : decode zy_Course_seekTwo.2.1 126 = .ok (.iadd, 1) := by decide +kernel
theorem d_Course_seekTwo_127 : decode zy_Course_seekTwo.2.1 127 = .ok (.bipush 100, 2) := by decide +kernel
theorem d_Course_seekTwo_129 : decode zy_Course_seekTwo.2.1 129 = .ok (.aload_n 0, 1) := by decide +kernel
theorem d_Course_seekTwo_130 : decode zy_Course_seekTwo.2.1 130 = .ok (.getfield 15, 3) := by decide +kernel
theorem d_Course_seekTwo_133 : decode zy_Course_seekTwo.2.1 133 = .ok (.iload 5, 2) := by decide +kernel
theorem d_Course_seekTwo_135 : decode zy_Course_seekTwo.2.1 135 = .ok (.iaload, 1) := by decide +kernel
theorem d_Course_seekTwo_136 : decode zy_Course_seekTwo.2.1 136 = .ok (.imul, 1) := by decide +kernel
theorem d_Course_seekTwo_137 : decode zy_Course_seekTwo.2.1 137 = .ok (.aload_n 0, 1) := by decide +kernel
theorem d_Course_seekTwo_138 : decode zy_Course_seekTwo.2.1 138 = .ok (.getfield 15, 3) := by decide +kernel
theorem d_Course_seekTwo_141 : decode zy_Course_seekTwo.2.1 141 = .ok (.iload 6, 2) := by decide +kernel
theorem d_Course_seekTwo_143 : decode zy_Course_seekTwo.2.1 143 = .ok (.iaload, 1) := by decide +kernel
theorem d_Course_seekTwo_144 : decode zy_Course_seekTwo.2.1 144 = .ok (.iadd, 1) := by decide +kernel
theorem d_Course_seekTwo_145 : decode zy_Course_seekTwo.2.1 145 = .ok (.invokevirtual 45, 3) := by decide +kernel
theorem d_Course_seekTwo_148 : decode zy_Course_seekTwo.2.1 148 = .ok (.iinc 6 1, 3) := by decide +kernel
theorem d_Course_seekTwo_151 : decode zy_Course_seekTwo.2.1 151 = .ok (.goto (-133), 3) := by decide +kernel
theorem d_Course_seekTwo_154 : decode zy_Course_seekTwo.2.1 154 = .ok (.iinc 5 1, 3) := by decide +kernel
theorem d_Course_seekTwo_157 : decode zy_Course_seekTwo.2.1 157 = .ok (.goto (-154), 3) := by decide +kernel
theorem d_Course_seekTwo_160 : decode zy_Course_seekTwo.2.1 160 = .ok (.return_, 1) := by decide +kernel
theorem d_Cover_lacking_0 : decode zy_Cover_lacking.2.1 0 = .ok (.lconst 0, 1) := by decide +kernel
theorem d_Cover_lacking_1 : decode zy_Cover_lacking.2.1 1 = .ok (.lstore_n 3, 1) := by decide +kernel
theorem d_Cover_lacking_2 : decode zy_Cover_lacking.2.1 2 = .ok (.iconst 1, 1) := by decide +kernel
theorem d_Cover_lacking_3 : decode zy_Cover_lacking.2.1 3 = .ok (.istore 5, 2) := by decide +kernel
theorem d_Cover_lacking_5 : decode zy_Cover_lacking.2.1 5 = .ok (.iload 5, 2) := by decide +kernel
theorem d_Cover_lacking_7 : decode zy_Cover_lacking.2.1 7 = .ok (.aload_n 0, 1) := by decide +kernel
theorem d_Cover_lacking_8 : decode zy_Cover_lacking.2.1 8 = .ok (.getfield 9, 3) := by decide +kernel
theorem d_Cover_lacking_11 : decode zy_Cover_lacking.2.1 11 = .ok (.if_icmp .gt (60), 3) := by decide +kernel
theorem d_Cover_lacking_14 : decode zy_Cover_lacking.2.1 14 = .ok (.iload 5, 2) := by decide +kernel
theorem d_Cover_lacking_16 : decode zy_Cover_lacking.2.1 16 = .ok (.bipush 64, 2) := by decide +kernel
theorem d_Cover_lacking_18 : decode zy_Cover_lacking.2.1 18 = .ok (.if_icmp .ge (53), 3) := by decide +kernel
theorem d_Cover_lacking_21 : decode zy_Cover_lacking.2.1 21 = .ok (.iload 5, 2) := by decide +kernel
theorem d_Cover_lacking_23 : decode zy_Cover_lacking.2.1 23 = .ok (.aload_n 0, 1) := by decide +kernel
theorem d_Cover_lacking_24 : decode zy_Cover_lacking.2.1 24 = .ok (.getfield 9, 3) := by decide +kernel
theorem d_Cover_lacking_27 : decode zy_Cover_lacking.2.1 27 = .ok (.iconst (-1), 1) := by decide +kernel
theorem d_Cover_lacking_28 : decode zy_Cover_lacking.2.1 28 = .ok (.ixor, 1) := by decide +kernel
theorem d_Cover_lacking_29 : decode zy_Cover_lacking.2.1 29 = .ok (.iand, 1) := by decide +kernel
theorem d_Cover_lacking_30 : decode zy_Cover_lacking.2.1 30 = .ok (.ifCond .eq (6), 3) := by decide +kernel
theorem d_Cover_lacking_33 : decode zy_Cover_lacking.2.1 33 = .ok (.goto (32), 3) := by decide +kernel
theorem d_Cover_lacking_36 : decode zy_Cover_lacking.2.1 36 = .ok (.iload 5, 2) := by decide +kernel
theorem d_Cover_lacking_38 : decode zy_Cover_lacking.2.1 38 = .ok (.invokestatic 22, 3) := by decide +kernel
theorem d_Cover_lacking_41 : decode zy_Cover_lacking.2.1 41 = .ok (.iload_n 1, 1) := by decide +kernel
theorem d_Cover_lacking_42 : decode zy_Cover_lacking.2.1 42 = .ok (.iadd, 1) := by decide +kernel
theorem d_Cover_lacking_43 : decode zy_Cover_lacking.2.1 43 = .ok (.aload_n 0, 1) := by decide +kernel
theorem d_Cover_lacking_44 : decode zy_Cover_lacking.2.1 44 = .ok (.getfield 19, 3) := by decide +kernel
theorem d_Cover_lacking_47 : decode zy_Cover_lacking.2.1 47 = .ok (.iload 5, 2) := by decide +kernel
theorem d_Cover_lacking_49 : decode zy_Cover_lacking.2.1 49 = .ok (.iaload, 1) := by decide +kernel
theorem d_Cover_lacking_50 : decode zy_Cover_lacking.2.1 50 = .ok (.invokestatic 22, 3) := by decide +kernel
theorem d_Cover_lacking_53 : decode zy_Cover_lacking.2.1 53 = .ok (.isub, 1) := by decide +kernel
theorem d_Cover_lacking_54 : decode zy_Cover_lacking.2.1 54 = .ok (.iload_n 2, 1) := by decide +kernel
theorem d_Cover_lacking_55 : decode zy_Cover_lacking.2.1 55 = .ok (.if_icmp .lt (10), 3) := by decide +kernel
theorem d_Cover_lacking_58 : decode zy_Cover_lacking.2.1 58 = .ok (.lload_n 3, 1) := by decide +kernel
theorem d_Cover_lacking_59 : decode zy_Cover_lacking.2.1 59 = .ok (.lconst 1, 1) := by decide +kernel
theorem d_Cover_lacking_60 : decode zy_Cover_lacking.2.1 60 = .ok (.iload 5, 2) := by decide +kernel
theorem d_Cover_lacking_62 : decode zy_Cover_lacking.2.1 62 = .ok (.lshl, 1) := by decide +kernel
theorem d_Cover_lacking_63 : decode zy_Cover_lacking.2.1 63 = .ok (.lor, 1) := by decide +kernel
theorem d_Cover_lacking_64 : decode zy_Cover_lacking.2.1 64 = .ok (.lstore_n 3, 1) := by decide +kernel
theorem d_Cover_lacking_65 : decode zy_Cover_lacking.2.1 65 = .ok (.iinc 5 1, 3) := by decide +kernel
theorem d_Cover_lacking_68 : decode zy_Cover_lacking.2.1 68 = .ok (.goto (-63), 3) := by decide +kernel
theorem d_Cover_lacking_71 : decode zy_Cover_lacking.2.1 71 = .ok (.lload_n 3, 1) := by decide +kernel
theorem d_Cover_lacking_72 : decode zy_Cover_lacking.2.1 72 = .ok (.lreturn, 1) := by decide +kernel
theorem d_Cover_tooFew_0 : decode zy_Cover_tooFew.2.1 0 = .ok (.iconst (-1), 1) := by decide +kernel
theorem d_Cover_tooFew_1 : decode zy_Cover_tooFew.2.1 1 = .ok (.istore_n 2, 1) := by decide +kernel
theorem d_Cover_tooFew_2 : decode zy_Cover_tooFew.2.1 2 = .ok (.bipush 7, 2) := by decide +kernel
theorem d_Cover_tooFew_4 : decode zy_Cover_tooFew.2.1 4 = .ok (.istore_n 3, 1) := by decide +kernel
theorem d_Cover_tooFew_5 : decode zy_Cover_tooFew.2.1 5 = .ok (.iconst 1, 1) := by decide +kernel
theorem d_Cover_tooFew_6 : decode zy_Cover_tooFew.2.1 6 = .ok (.istore 4, 2) := by decide +kernel
theorem d_Cover_tooFew_8 : decode zy_Cover_tooFew.2.1 8 = .ok (.iload 4, 2) := by decide +kernel
theorem d_Cover_tooFew_10 : decode zy_Cover_tooFew.2.1 10 = .ok (.aload_n 0, 1) := by decide +kernel
theorem d_Cover_tooFew_11 : decode zy_Cover_tooFew.2.1 11 = .ok (.getfield 9, 3) := by decide +kernel
theorem d_Cover_tooFew_14 : decode zy_Cover_tooFew.2.1 14 = .ok (.if_icmp .gt (67), 3) := by decide +kernel
theorem d_Cover_tooFew_17 : decode zy_Cover_tooFew.2.1 17 = .ok (.iload 4, 2) := by decide +kernel
theorem d_Cover_tooFew_19 : decode zy_Cover_tooFew.2.1 19 = .ok (.bipush 64, 2) := by decide +kernel
theorem d_Cover_tooFew_21 : decode zy_Cover_tooFew.2.1 21 = .ok (.if_icmp .ge (60), 3) := by decide +kernel
theorem d_Cover_tooFew_24 : decode zy_Cover_tooFew.2.1 24 = .ok (.iload 4, 2) := by decide +kernel
theorem d_Cover_tooFew_26 : decode zy_Cover_tooFew.2.1 26 = .ok (.aload_n 0, 1) := by decide +kernel
theorem d_Cover_tooFew_27 : decode zy_Cover_tooFew.2.1 27 = .ok (.getfield 9, 3) := by decide +kernel
theorem d_Cover_tooFew_30 : decode zy_Cover_tooFew.2.1 30 = .ok (.iconst (-1), 1) := by decide +kernel
theorem d_Cover_tooFew_31 : decode zy_Cover_tooFew.2.1 31 = .ok (.ixor, 1) := by decide +kernel
theorem d_Cover_tooFew_32 : decode zy_Cover_tooFew.2.1 32 = .ok (.iand, 1) := by decide +kernel
theorem d_Cover_tooFew_33 : decode zy_Cover_tooFew.2.1 33 = .ok (.ifCond .eq (6), 3) := by decide +kernel
theorem d_Cover_tooFew_36 : decode zy_Cover_tooFew.2.1 36 = .ok (.goto (39), 3) := by decide +kernel
theorem d_Cover_tooFew_39 : decode zy_Cover_tooFew.2.1 39 = .ok (.iload 4, 2) := by decide +kernel
theorem d_Cover_tooFew_41 : decode zy_Cover_tooFew.2.1 41 = .ok (.invokestatic 22, 3) := by decide +kernel
theorem d_Cover_tooFew_44 : decode zy_Cover_tooFew.2.1 44 = .ok (.istore 5, 2) := by decide +kernel
theorem d_Cover_tooFew_46 : decode zy_Cover_tooFew.2.1 46 = .ok (.iload 5, 2) := by decide +kernel
theorem d_Cover_tooFew_48 : decode zy_Cover_tooFew.2.1 48 = .ok (.iload_n 3, 1) := by decide +kernel
theorem d_Cover_tooFew_49 : decode zy_Cover_tooFew.2.1 49 = .ok (.if_icmp .ge (26), 3) := by decide +kernel
theorem d_Cover_tooFew_52 : decode zy_Cover_tooFew.2.1 52 = .ok (.aload_n 0, 1) := by decide +kernel
theorem d_Cover_tooFew_53 : decode zy_Cover_tooFew.2.1 53 = .ok (.getfield 19, 3) := by decide +kernel
theorem d_Cover_tooFew_56 : decode zy_Cover_tooFew.2.1 56 = .ok (.iload 4, 2) := by decide +kernel
theorem d_Cover_tooFew_58 : decode zy_Cover_tooFew.2.1 58 = .ok (.iaload, 1) := by decide +kernel
theorem d_Cover_tooFew_59 : decode zy_Cover_tooFew.2.1 59 = .ok (.iload_n 1, 1) := by decide +kernel
theorem d_Cover_tooFew_60 : decode zy_Cover_tooFew.2.1 60 = .ok (.iand, 1) := by decide +kernel
theorem d_Cover_tooFew_61 : decode zy_Cover_tooFew.2.1 61 = .ok (.invokestatic 22, 3) := by decide +kernel
theorem d_Cover_tooFew_64 : decode zy_Cover_tooFew.2.1 64 = .ok (.iload 5, 2) := by decide +kernel
theorem d_Cover_tooFew_66 : decode zy_Cover_tooFew.2.1 66 = .ok (.if_icmp .ge (9), 3) := by decide +kernel
theorem d_Cover_tooFew_69 : decode zy_Cover_tooFew.2.1 69 = .ok (.iload 4, 2) := by decide +kernel
theorem d_Cover_tooFew_71 : decode zy_Cover_tooFew.2.1 71 = .ok (.istore_n 2, 1) := by decide +kernel
theorem d_Cover_tooFew_72 : decode zy_Cover_tooFew.2.1 72 = .ok (.iload 5, 2) := by decide +kernel
theorem d_Cover_tooFew_74 : decode zy_Cover_tooFew.2.1 74 = .ok (.istore_n 3, 1) := by decide +kernel
theorem d_Cover_tooFew_75 : decode zy_Cover_tooFew.2.1 75 = .ok (.iinc 4 1, 3) := by decide +kernel
theorem d_Cover_tooFew_78 : decode zy_Cover_tooFew.2.1 78 = .ok (.goto (-70), 3) := by decide +kernel
theorem d_Cover_tooFew_81 : decode zy_Cover_tooFew.2.1 81 = .ok (.iload_n 2, 1) := by decide +kernel
theorem d_Cover_tooFew_82 : decode zy_Cover_tooFew.2.1 82 = .ok (.ireturn, 1) := by decide +kernel
theorem d_Person_init_0 : decode zy_Person_init.2.1 0 = .ok (.aload_n 0, 1) := by decide +kernel
theorem d_Person_init_1 : decode zy_Person_init.2.1 1 = .ok (.invokespecial 3, 3) := by decide +kernel
theorem d_Person_init_4 : decode zy_Person_init.2.1 4 = .ok (.aload_n 0, 1) := by decide +kernel
theorem d_Person_init_5 : decode zy_Person_init.2.1 5 = .ok (.iconst 0, 1) := by decide +kernel
theorem d_Person_init_6 : decode zy_Person_init.2.1 6 = .ok (.putfield 9, 3) := by decide +kernel
theorem d_Person_init_9 : decode zy_Person_init.2.1 9 = .ok (.aload_n 0, 1) := by decide +kernel
theorem d_Person_init_10 : decode zy_Person_init.2.1 10 = .ok (.iconst 0, 1) := by decide +kernel
theorem d_Person_init_11 : decode zy_Person_init.2.1 11 = .ok (.putfield 15, 3) := by decide +kernel
theorem d_Person_init_14 : decode zy_Person_init.2.1 14 = .ok (.aload_n 0, 1) := by decide +kernel
theorem d_Person_init_15 : decode zy_Person_init.2.1 15 = .ok (.iconst 0, 1) := by decide +kernel
theorem d_Person_init_16 : decode zy_Person_init.2.1 16 = .ok (.putfield 18, 3) := by decide +kernel
theorem d_Person_init_19 : decode zy_Person_init.2.1 19 = .ok (.aload_n 0, 1) := by decide +kernel
theorem d_Person_init_20 : decode zy_Person_init.2.1 20 = .ok (.iconst 0, 1) := by decide +kernel
theorem d_Person_init_21 : decode zy_Person_init.2.1 21 = .ok (.putfield 21, 3) := by decide +kernel
theorem d_Person_init_24 : decode zy_Person_init.2.1 24 = .ok (.aload_n 0, 1) := by decide +kernel
theorem d_Person_init_25 : decode zy_Person_init.2.1 25 = .ok (.iconst 0, 1) := by decide +kernel
theorem d_Person_init_26 : decode zy_Person_init.2.1 26 = .ok (.putfield 24, 3) := by decide +kernel
theorem d_Person_init_29 : decode zy_Person_init.2.1 29 = .ok (.aload_n 0, 1) := by decide +kernel
theorem d_Person_init_30 : decode zy_Person_init.2.1 30 = .ok (.bipush 6, 2) := by decide +kernel
theorem d_Person_init_32 : decode zy_Person_init.2.1 32 = .ok (.newarray .int, 2) := by decide +kernel
theorem d_Person_init_34 : decode zy_Person_init.2.1 34 = .ok (.putfield 27, 3) := by decide +kernel
theorem d_Person_init_37 : decode zy_Person_init.2.1 37 = .ok (.aload_n 0, 1) := by decide +kernel
theorem d_Person_init_38 : decode zy_Person_init.2.1 38 = .ok (.iconst 0, 1) := by decide +kernel
theorem d_Person_init_39 : decode zy_Person_init.2.1 39 = .ok (.putfield 31, 3) := by decide +kernel
theorem d_Person_init_42 : decode zy_Person_init.2.1 42 = .ok (.aload_n 0, 1) := by decide +kernel
theorem d_Person_init_43 : decode zy_Person_init.2.1 43 = .ok (.iconst 0, 1) := by decide +kernel
theorem d_Person_init_44 : decode zy_Person_init.2.1 44 = .ok (.putfield 34, 3) := by decide +kernel
theorem d_Person_init_47 : decode zy_Person_init.2.1 47 = .ok (.aload_n 0, 1) := by decide +kernel
theorem d_Person_init_48 : decode zy_Person_init.2.1 48 = .ok (.bipush 6, 2) := by decide +kernel
theorem d_Person_init_50 : decode zy_Person_init.2.1 50 = .ok (.newarray .int, 2) := by decide +kernel
theorem d_Person_init_52 : decode zy_Person_init.2.1 52 = .ok (.putfield 37, 3) := by decide +kernel
theorem d_Person_init_55 : decode zy_Person_init.2.1 55 = .ok (.aload_n 0, 1) := by decide +kernel
theorem d_Person_init_56 : decode zy_Person_init.2.1 56 = .ok (.iconst 0, 1) := by decide +kernel
theorem d_Person_init_57 : decode zy_Person_init.2.1 57 = .ok (.putfield 40, 3) := by decide +kernel
theorem d_Person_init_60 : decode zy_Person_init.2.1 60 = .ok (.aload_n 0, 1) := by decide +kernel
theorem d_Person_init_61 : decode zy_Person_init.2.1 61 = .ok (.getfield 27, 3) := by decide +kernel
theorem d_Person_init_64 : decode zy_Person_init.2.1 64 = .ok (.iconst (-1), 1) := by decide +kernel
theorem d_Person_init_65 : decode zy_Person_init.2.1 65 = .ok (.invokestatic 43, 3) := by decide +kernel
theorem d_Person_init_68 : decode zy_Person_init.2.1 68 = .ok (.aload_n 0, 1) := by decide +kernel
theorem d_Person_init_69 : decode zy_Person_init.2.1 69 = .ok (.getfield 37, 3) := by decide +kernel
theorem d_Person_init_72 : decode zy_Person_init.2.1 72 = .ok (.iconst (-1), 1) := by decide +kernel
theorem d_Person_init_73 : decode zy_Person_init.2.1 73 = .ok (.invokestatic 43, 3) := by decide +kernel
theorem d_Person_init_76 : decode zy_Person_init.2.1 76 = .ok (.return_, 1) := by decide +kernel
theorem d_Person_describe_0 : decode zy_Person_describe.2.1 0 = .ok (.aload_n 3, 1) := by decide +kernel
theorem d_Person_describe_1 : decode zy_Person_describe.2.1 1 = .ok (.arraylength, 1) := by decide +kernel
theorem d_Person_describe_2 : decode zy_Person_describe.2.1 2 = .ok (.bipush 6, 2) := by decide +kernel
theorem d_Person_describe_4 : decode zy_Person_describe.2.1 4 = .ok (.if_icmp .ge (4), 3) := by decide +kernel
theorem d_Person_describe_7 : decode zy_Person_describe.2.1 7 = .ok (.return_, 1) := by decide +kernel
theorem d_Person_describe_8 : decode zy_Person_describe.2.1 8 = .ok (.aload_n 3, 1) := by decide +kernel
theorem d_Person_describe_9 : decode zy_Person_describe.2.1 9 = .ok (.iconst 0, 1) := by decide +kernel
theorem d_Person_describe_10 : decode zy_Person_describe.2.1 10 = .ok (.iload_n 1, 1) := by decide +kernel
theorem d_Person_describe_11 : decode zy_Person_describe.2.1 11 = .ok (.aload_n 0, 1) := by decide +kernel
theorem d_Person_describe_12 : decode zy_Person_describe.2.1 12 = .ok (.getfield 15, 3) := by decide +kernel
theorem d_Person_describe_15 : decode zy_Person_describe.2.1 15 = .ok (.if_icmp .ne (7), 3) := by decide +kernel
theorem d_Person_describe_18 : decode zy_Person_describe.2.1 18 = .ok (.iconst 1, 1) := by decide +kernel
theorem d_Person_describe_19 : decode zy_Person_describe.2.1 19 = .ok (.goto (4), 3) := by decide +kernel
theorem d_Person_describe_22 : decode zy_Person_describe.2.1 22 = .ok (.iconst 0, 1) := by decide +kernel
theorem d_Person_describe_23 : decode zy_Person_describe.2.1 23 = .ok (.iastore, 1) := by decide +kernel
theorem d_Person_describe_24 : decode zy_Person_describe.2.1 24 = .ok (.aload_n 3, 1) := by decide +kernel
theorem d_Person_describe_25 : decode zy_Person_describe.2.1 25 = .ok (.iconst 1, 1) := by decide +kernel
theorem d_Person_describe_26 : decode zy_Person_describe.2.1 26 = .ok (.aload_n 0, 1) := by decide +kernel
theorem d_Person_describe_27 : decode zy_Person_describe.2.1 27 = .ok (.getfield 18, 3) := by decide +kernel
theorem d_Person_describe_30 : decode zy_Person_describe.2.1 30 = .ok (.iastore, 1) := by decide +kernel
theorem d_Person_describe_31 : decode zy_Person_describe.2.1 31 = .ok (.aload_n 3, 1) := by decide +kernel
theorem d_Person_describe_32 : decode zy_Person_describe.2.1 32 = .ok (.iconst 2, 1) := by decide +kernel
theorem d_Person_describe_33 : decode zy_Person_describe.2.1 33 = .ok (.aload_n 0, 1) := by decide +kernel
theorem d_Person_describe_34 : decode zy_Person_describe.2.1 34 = .ok (.iload_n 1, 1) := by decide +kernel
theorem d_Person_describe_35 : decode zy_Person_describe.2.1 35 = .ok (.aload_n 2, 1) := by decide +kernel
theorem d_Person_describe_36 : decode zy_Person_describe.2.1 36 = .ok (.getfield 63, 3) := by decide +kernel
theorem d_Person_describe_39 : decode zy_Person_describe.2.1 39 = .ok (.invokevirtual 97, 3) := by decide +kernel
theorem d_Person_describe_42 : decode zy_Person_describe.2.1 42 = .ok (.iastore, 1) := by decide +kernel
theorem d_Person_describe_43 : decode zy_Person_describe.2.1 43 = .ok (.aload_n 3, 1) := by decide +kernel
theorem d_Person_describe_44 : decode zy_Person_describe.2.1 44 = .ok (.iconst 3, 1) := by decide +kernel
theorem d_Person_describe_45 : decode zy_Person_describe.2.1 45 = .ok (.aload_n 2, 1) := by decide +kernel
theorem d_Person_describe_46 : decode zy_Person_describe.2.1 46 = .ok (.iload_n 1, 1) := by decide +kernel
theorem d_Person_describe_47 : decode zy_Person_describe.2.1 47 = .ok (.invokevirtual 78, 3) := by decide +kernel
theorem d_Person_describe_50 : decode zy_Person_describe.2.1 50 = .ok (.ifCond .eq (7), 3) := by decide +kernel
theorem d_Person_describe_53 : decode zy_Person_describe.2.1 53 = .ok (.iconst 1, 1) := by decide +kernel
theorem d_Person_describe_54 : decode zy_Person_describe.2.1 54 = .ok (.goto (4), 3) := by decide +kernel
theorem d_Person_describe_57 : decode zy_Person_describe.2.1 57 = .ok (.iconst 0, 1) := by decide +kernel
theorem d_Person_describe_58 : decode zy_Person_describe.2.1 58 = .ok (.iastore, 1) := by decide +kernel
theorem d_Person_describe_59 : decode zy_Person_describe.2.1 59 = .ok (.aload_n 3, 1) := by decide +kernel
theorem d_Person_describe_60 : decode zy_Person_describe.2.1 60 = .ok (.iconst 4, 1) := by decide +kernel
theorem d_Person_describe_61 : decode zy_Person_describe.2.1 61 = .ok (.aload_n 2, 1) := by decide +kernel
theorem d_Person_describe_62 : decode zy_Person_describe.2.1 62 = .ok (.getfield 81, 3) := by decide +kernel
theorem d_Person_describe_65 : decode zy_Person_describe.2.1 65 = .ok (.iload_n 1, 1) := by decide +kernel
theorem d_Person_describe_66 : decode zy_Person_describe.2.1 66 = .ok (.iaload, 1) := by decide +kernel
theorem d_Person_describe_67 : decode zy_Person_describe.2.1 67 = .ok (.iastore, 1) := by decide +kernel
theorem d_Person_describe_68 : decode zy_Person_describe.2.1 68 = .ok (.aload_n 3, 1) := by decide +kernel
theorem d_Person_describe_69 : decode zy_Person_describe.2.1 69 = .ok (.iconst 5, 1) := by decide +kernel
theorem d_Person_describe_70 : decode zy_Person_describe.2.1 70 = .ok (.aload_n 0, 1) := by decide +kernel
theorem d_Person_describe_71 : decode zy_Person_describe.2.1 71 = .ok (.invokevirtual 100, 3) := by decide +kernel
theorem d_Person_describe_74 : decode zy_Person_describe.2.1 74 = .ok (.iastore, 1) := by decide +kernel
theorem d_Person_describe_75 : decode zy_Person_describe.2.1 75 = .ok (.return_, 1) := by decide +kernel
theorem d_Person_keeps_0 : decode zy_Person_keeps.2.1 0 = .ok (.aload_n 0, 1) := by decide +kernel
theorem d_Person_keeps_1 : decode zy_Person_keeps.2.1 1 = .ok (.iconst 2, 1) := by decide +kernel
theorem d_Person_keeps_2 : decode zy_Person_keeps.2.1 2 = .ok (.invokevirtual 52, 3) := by decide +kernel
theorem d_Person_keeps_5 : decode zy_Person_keeps.2.1 5 = .ok (.ifCond .eq (12), 3) := by decide +kernel
theorem d_Person_keeps_8 : decode zy_Person_keeps.2.1 8 = .ok (.iconst 2, 1) := by decide +kernel
theorem d_Person_keeps_9 : decode zy_Person_keeps.2.1 9 = .ok (.aload_n 0, 1) := by decide +kernel
theorem d_Person_keeps_10 : decode zy_Person_keeps.2.1 10 = .ok (.getfield 18, 3) := by decide +kernel
theorem d_Person_keeps_13 : decode zy_Person_keeps.2.1 13 = .ok (.iadd, 1) := by decide +kernel
theorem d_Person_keeps_14 : decode zy_Person_keeps.2.1 14 = .ok (.goto (4), 3) := by decide +kernel
theorem d_Person_keeps_17 : decode zy_Person_keeps.2.1 17 = .ok (.iconst 2, 1) := by decide +kernel
theorem d_Person_keeps_18 : decode zy_Person_keeps.2.1 18 = .ok (.istore_n 1, 1) := by decide +kernel
theorem d_Person_keeps_19 : decode zy_Person_keeps.2.1 19 = .ok (.aload_n 0, 1) := by decide +kernel
theorem d_Person_keeps_20 : decode zy_Person_keeps.2.1 20 = .ok (.getfield 9, 3) := by decide +kernel
theorem d_Person_keeps_23 : decode zy_Person_keeps.2.1 23 = .ok (.iconst 3, 1) := by decide +kernel
theorem d_Person_keeps_24 : decode zy_Person_keeps.2.1 24 = .ok (.if_icmp .ne (7), 3) := by decide +kernel
theorem d_Person_keeps_27 : decode zy_Person_keeps.2.1 27 = .ok (.iload_n 1, 1) := by decide +kernel
theorem d_Person_keeps_28 : decode zy_Person_keeps.2.1 28 = .ok (.iconst 1, 1) := by decide +kernel
theorem d_Person_keeps_29 : decode zy_Person_keeps.2.1 29 = .ok (.iadd, 1) := by decide +kernel
theorem d_Person_keeps_30 : decode zy_Person_keeps.2.1 30 = .ok (.ireturn, 1) := by decide +kernel
theorem d_Person_keeps_31 : decode zy_Person_keeps.2.1 31 = .ok (.aload_n 0, 1) := by decide +kernel
theorem d_Person_keeps_32 : decode zy_Person_keeps.2.1 32 = .ok (.getfield 9, 3) := by decide +kernel
theorem d_Person_keeps_35 : decode zy_Person_keeps.2.1 35 = .ok (.iconst 5, 1) := by decide +kernel
theorem d_Person_keeps_36 : decode zy_Person_keeps.2.1 36 = .ok (.if_icmp .ne (9), 3) := by decide +kernel
theorem d_Person_keeps_39 : decode zy_Person_keeps.2.1 39 = .ok (.iload_n 1, 1) := by decide +kernel
theorem d_Person_keeps_40 : decode zy_Person_keeps.2.1 40 = .ok (.iconst 1, 1) := by decide +kernel
theorem d_Person_keeps_41 : decode zy_Person_keeps.2.1 41 = .ok (.isub, 1) := by decide +kernel
theorem d_Person_keeps_42 : decode zy_Person_keeps.2.1 42 = .ok (.goto (4), 3) := by decide +kernel
theorem d_Person_keeps_45 : decode zy_Person_keeps.2.1 45 = .ok (.iload_n 1, 1) := by decide +kernel
theorem d_Person_keeps_46 : decode zy_Person_keeps.2.1 46 = .ok (.ireturn, 1) := by decide +kernel
theorem d_Person_restore_0 : decode zy_Person_restore.2.1 0 = .ok (.aload_n 0, 1) := by decide +kernel
theorem d_Person_restore_1 : decode zy_Person_restore.2.1 1 = .ok (.aload_n 0, 1) := by decide +kernel
theorem d_Person_restore_2 : decode zy_Person_restore.2.1 2 = .ok (.getfield 34, 3) := by decide +kernel
theorem d_Person_restore_5 : decode zy_Person_restore.2.1 5 = .ok (.putfield 24, 3) := by decide +kernel
theorem d_Person_restore_8 : decode zy_Person_restore.2.1 8 = .ok (.aload_n 0, 1) := by decide +kernel
theorem d_Person_restore_9 : decode zy_Person_restore.2.1 9 = .ok (.aload_n 0, 1) := by decide +kernel
theorem d_Person_restore_10 : decode zy_Person_restore.2.1 10 = .ok (.getfield 40, 3) := by decide +kernel
theorem d_Person_restore_13 : decode zy_Person_restore.2.1 13 = .ok (.putfield 31, 3) := by decide +kernel
theorem d_Person_restore_16 : decode zy_Person_restore.2.1 16 = .ok (.aload_n 0, 1) := by decide +kernel
theorem d_Person_restore_17 : decode zy_Person_restore.2.1 17 = .ok (.getfield 37, 3) := by decide +kernel
theorem d_Person_restore_20 : decode zy_Person_restore.2.1 20 = .ok (.iconst 0, 1) := by decide +kernel
theorem d_Person_restore_21 : decode zy_Person_restore.2.1 21 = .ok (.aload_n 0, 1) := by decide +kernel
theorem d_Person_restore_22 : decode zy_Person_restore.2.1 22 = .ok (.getfield 27, 3) := by decide +kernel
theorem d_Person_restore_25 : decode zy_Person_restore.2.1 25 = .ok (.iconst 0, 1) := by decide +kernel
theorem d_Person_restore_26 : decode zy_Person_restore.2.1 26 = .ok (.bipush 6, 2) := by decide +kernel
theorem d_Person_restore_28 : decode zy_Person_restore.2.1 28 = .ok (.invokestatic 103, 3) := by decide +kernel
theorem d_Person_restore_31 : decode zy_Person_restore.2.1 31 = .ok (.return_, 1) := by decide +kernel
theorem d_Person_save_0 : decode zy_Person_save.2.1 0 = .ok (.aload_n 0, 1) := by decide +kernel
theorem d_Person_save_1 : decode zy_Person_save.2.1 1 = .ok (.aload_n 0, 1) := by decide +kernel
theorem d_Person_save_2 : decode zy_Person_save.2.1 2 = .ok (.getfield 24, 3) := by decide +kernel
theorem d_Person_save_5 : decode zy_Person_save.2.1 5 = .ok (.putfield 34, 3) := by decide +kernel
theorem d_Person_save_8 : decode zy_Person_save.2.1 8 = .ok (.aload_n 0, 1) := by decide +kernel
theorem d_Person_save_9 : decode zy_Person_save.2.1 9 = .ok (.aload_n 0, 1) := by decide +kernel
theorem d_Person_save_10 : decode zy_Person_save.2.1 10 = .ok (.getfield 31, 3) := by decide +kernel
theorem d_Person_save_13 : decode zy_Person_save.2.1 13 = .ok (.putfield 40, 3) := by decide +kernel
theorem d_Person_save_16 : decode zy_Person_save.2.1 16 = .ok (.aload_n 0, 1) := by decide +kernel
theorem d_Person_save_17 : decode zy_Person_save.2.1 17 = .ok (.getfield 27, 3) := by decide +kernel
theorem d_Person_save_20 : decode zy_Person_save.2.1 20 = .ok (.iconst 0, 1) := by decide +kernel
theorem d_Person_save_21 : decode zy_Person_save.2.1 21 = .ok (.aload_n 0, 1) := by decide +kernel
theorem d_Person_save_22 : decode zy_Person_save.2.1 22 = .ok (.getfield 37, 3) := by decide +kernel
theorem d_Person_save_25 : decode zy_Person_save.2.1 25 = .ok (.iconst 0, 1) := by decide +kernel
theorem d_Person_save_26 : decode zy_Person_save.2.1 26 = .ok (.bipush 6, 2) := by decide +kernel
theorem d_Person_save_28 : decode zy_Person_save.2.1 28 = .ok (.invokestatic 103, 3) := by decide +kernel
theorem d_Person_save_31 : decode zy_Person_save.2.1 31 = .ok (.return_, 1) := by decide +kernel
theorem d_Plan_firstAt_0 : decode zy_Plan_firstAt.2.1 0 = .ok (.aload_n 0, 1) := by decide +kernel
theorem d_Plan_firstAt_1 : decode zy_Plan_firstAt.2.1 1 = .ok (.getfield 22, 3) := by decide +kernel
theorem d_Plan_firstAt_4 : decode zy_Plan_firstAt.2.1 4 = .ok (.iload_n 1, 1) := by decide +kernel
theorem d_Plan_firstAt_5 : decode zy_Plan_firstAt.2.1 5 = .ok (.sipush 128, 3) := by decide +kernel
theorem d_Plan_firstAt_8 : decode zy_Plan_firstAt.2.1 8 = .ok (.imul, 1) := by decide +kernel
theorem d_Plan_firstAt_9 : decode zy_Plan_firstAt.2.1 9 = .ok (.iload_n 2, 1) := by decide +kernel
theorem d_Plan_firstAt_10 : decode zy_Plan_firstAt.2.1 10 = .ok (.iadd, 1) := by decide +kernel
theorem d_Plan_firstAt_11 : decode zy_Plan_firstAt.2.1 11 = .ok (.iaload, 1) := by decide +kernel
theorem d_Plan_firstAt_12 : decode zy_Plan_firstAt.2.1 12 = .ok (.istore_n 3, 1) := by decide +kernel
theorem d_Plan_firstAt_13 : decode zy_Plan_firstAt.2.1 13 = .ok (.aload_n 0, 1) := by decide +kernel
theorem d_Plan_firstAt_14 : decode zy_Plan_firstAt.2.1 14 = .ok (.iload_n 1, 1) := by decide +kernel
theorem d_Plan_firstAt_15 : decode zy_Plan_firstAt.2.1 15 = .ok (.iload_n 2, 1) := by decide +kernel
theorem d_Plan_firstAt_16 : decode zy_Plan_firstAt.2.1 16 = .ok (.iconst (-1), 1) := by decide +kernel
theorem d_Plan_firstAt_17 : decode zy_Plan_firstAt.2.1 17 = .ok (.invokevirtual 38, 3) := by decide +kernel
theorem d_Plan_firstAt_20 : decode zy_Plan_firstAt.2.1 20 = .ok (.iload_n 3, 1) := by decide +kernel
theorem d_Plan_firstAt_21 : decode zy_Plan_firstAt.2.1 21 = .ok (.if_icmp .ne (5), 3) := by decide +kernel
theorem d_Plan_firstAt_24 : decode zy_Plan_firstAt.2.1 24 = .ok (.iconst (-1), 1) := by decide +kernel
theorem d_Plan_firstAt_25 : decode zy_Plan_firstAt.2.1 25 = .ok (.ireturn, 1) := by decide +kernel
theorem d_Plan_firstAt_26 : decode zy_Plan_firstAt.2.1 26 = .ok (.iconst 0, 1) := by decide +kernel
theorem d_Plan_firstAt_27 : decode zy_Plan_firstAt.2.1 27 = .ok (.istore 4, 2) := by decide +kernel
theorem d_Plan_firstAt_29 : decode zy_Plan_firstAt.2.1 29 = .ok (.iload 4, 2) := by decide +kernel
theorem d_Plan_firstAt_31 : decode zy_Plan_firstAt.2.1 31 = .ok (.bipush 7, 2) := by decide +kernel
theorem d_Plan_firstAt_33 : decode zy_Plan_firstAt.2.1 33 = .ok (.if_icmp .ge (34), 3) := by decide +kernel
theorem d_Plan_firstAt_36 : decode zy_Plan_firstAt.2.1 36 = .ok (.iload_n 2, 1) := by decide +kernel
theorem d_Plan_firstAt_37 : decode zy_Plan_firstAt.2.1 37 = .ok (.iload 4, 2) := by decide +kernel
theorem d_Plan_firstAt_39 : decode zy_Plan_firstAt.2.1 39 = .ok (.ishr, 1) := by decide +kernel
theorem d_Plan_firstAt_40 : decode zy_Plan_firstAt.2.1 40 = .ok (.iconst 1, 1) := by decide +kernel
theorem d_Plan_firstAt_41 : decode zy_Plan_firstAt.2.1 41 = .ok (.iand, 1) := by decide +kernel
theorem d_Plan_firstAt_42 : decode zy_Plan_firstAt.2.1 42 = .ok (.iconst 1, 1) := by decide +kernel
theorem d_Plan_firstAt_43 : decode zy_Plan_firstAt.2.1 43 = .ok (.if_icmp .ne (18), 3) := by decide +kernel
theorem d_Plan_firstAt_46 : decode zy_Plan_firstAt.2.1 46 = .ok (.aload_n 0, 1) := by decide +kernel
theorem d_Plan_firstAt_47 : decode zy_Plan_firstAt.2.1 47 = .ok (.iload_n 1, 1) := by decide +kernel
theorem d_Plan_firstAt_48 : decode zy_Plan_firstAt.2.1 48 = .ok (.iload_n 2, 1) := by decide +kernel
theorem d_Plan_firstAt_49 : decode zy_Plan_firstAt.2.1 49 = .ok (.iload 4, 2) := by decide +kernel
theorem d_Plan_firstAt_51 : decode zy_Plan_firstAt.2.1 51 = .ok (.invokevirtual 38, 3) := by decide +kernel
theorem d_Plan_firstAt_54 : decode zy_Plan_firstAt.2.1 54 = .ok (.iload_n 3, 1) := by decide +kernel
theorem d_Plan_firstAt_55 : decode zy_Plan_firstAt.2.1 55 = .ok (.if_icmp .ne (6), 3) := by decide +kernel
theorem d_Plan_firstAt_58 : decode zy_Plan_firstAt.2.1 58 = .ok (.iload 4, 2) := by decide +kernel
theorem d_Plan_firstAt_60 : decode zy_Plan_firstAt.2.1 60 = .ok (.ireturn, 1) := by decide +kernel
theorem d_Plan_firstAt_61 : decode zy_Plan_firstAt.2.1 61 = .ok (.iinc 4 1, 3) := by decide +kernel
theorem d_Plan_firstAt_64 : decode zy_Plan_firstAt.2.1 64 = .ok (.goto (-35), 3) := by decide +kernel
theorem d_Plan_firstAt_67 : decode zy_Plan_firstAt.2.1 67 = .ok (.iconst (-1), 1) := by decide +kernel
theorem d_Plan_firstAt_68 : decode zy_Plan_firstAt.2.1 68 = .ok (.ireturn, 1) := by decide +kernel
