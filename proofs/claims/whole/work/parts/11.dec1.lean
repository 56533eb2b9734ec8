theorem d_X_commonDivisor_0 : decode zy_X_commonDivisor.2.1 0 = .ok (.iconst 0, 1) := by decide +kernel
theorem d_X_commonDivisor_1 : decode zy_X_commonDivisor.2.1 1 = .ok (.istore 4, 2) := by decide +kernel
theorem d_X_commonDivisor_3 : decode zy_X_commonDivisor.2.1 3 = .ok (.iload 4, 2) := by decide +kernel
theorem d_X_commonDivisor_5 : decode zy_X_commonDivisor.2.1 5 = .ok (.bipush 100, 2) := by decide +kernel
theorem d_X_commonDivisor_7 : decode zy_X_commonDivisor.2.1 7 = .ok (.if_icmp .ge (25), 3) := by decide +kernel
theorem d_X_commonDivisor_10 : decode zy_X_commonDivisor.2.1 10 = .ok (.lload_n 2, 1) := by decide +kernel
theorem d_X_commonDivisor_11 : decode zy_X_commonDivisor.2.1 11 = .ok (.lconst 0, 1) := by decide +kernel
theorem d_X_commonDivisor_12 : decode zy_X_commonDivisor.2.1 12 = .ok (.lcmp, 1) := by decide +kernel
theorem d_X_commonDivisor_13 : decode zy_X_commonDivisor.2.1 13 = .ok (.ifCond .eq (19), 3) := by decide +kernel
theorem d_X_commonDivisor_16 : decode zy_X_commonDivisor.2.1 16 = .ok (.lload_n 0, 1) := by decide +kernel
theorem d_X_commonDivisor_17 : decode zy_X_commonDivisor.2.1 17 = .ok (.lload_n 2, 1) := by decide +kernel
theorem d_X_commonDivisor_18 : decode zy_X_commonDivisor.2.1 18 = .ok (.lrem, 1) := by decide +kernel
theorem d_X_commonDivisor_19 : decode zy_X_commonDivisor.2.1 19 = .ok (.lstore 5, 2) := by decide +kernel
theorem d_X_commonDivisor_21 : decode zy_X_commonDivisor.2.1 21 = .ok (.lload_n 2, 1) := by decide +kernel
theorem d_X_commonDivisor_22 : decode zy_X_commonDivisor.2.1 22 = .ok (.lstore_n 0, 1) := by decide +kernel
theorem d_X_commonDivisor_23 : decode zy_X_commonDivisor.2.1 23 = .ok (.lload 5, 2) := by decide +kernel
theorem d_X_commonDivisor_25 : decode zy_X_commonDivisor.2.1 25 = .ok (.lstore_n 2, 1) := by decide +kernel
theorem d_X_commonDivisor_26 : decode zy_X_commonDivisor.2.1 26 = .ok (.iinc 4 1, 3) := by decide +kernel
theorem d_X_commonDivisor_29 : decode zy_X_commonDivisor.2.1 29 = .ok (.goto (-26), 3) := by decide +kernel
theorem d_X_commonDivisor_32 : decode zy_X_commonDivisor.2.1 32 = .ok (.lload_n 0, 1) := by decide +kernel
theorem d_X_commonDivisor_33 : decode zy_X_commonDivisor.2.1 33 = .ok (.lreturn, 1) := by decide +kernel
theorem d_X_everyone_0 : decode zy_X_everyone.2.1 0 = .ok (.iconst 1, 1) := by decide +kernel
theorem d_X_everyone_1 : decode zy_X_everyone.2.1 1 = .ok (.aload_n 0, 1) := by decide +kernel
theorem d_X_everyone_2 : decode zy_X_everyone.2.1 2 = .ok (.getfield 22, 3) := by decide +kernel
theorem d_X_everyone_5 : decode zy_X_everyone.2.1 5 = .ok (.ishl, 1) := by decide +kernel
theorem d_X_everyone_6 : decode zy_X_everyone.2.1 6 = .ok (.iconst 1, 1) := by decide +kernel
theorem d_X_everyone_7 : decode zy_X_everyone.2.1 7 = .ok (.isub, 1) := by decide +kernel
theorem d_X_everyone_8 : decode zy_X_everyone.2.1 8 = .ok (.ireturn, 1) := by decide +kernel
theorem d_X_force_0 : decode zy_X_force.2.1 0 = .ok (.iload_n 1, 1) := by decide +kernel
theorem d_X_force_1 : decode zy_X_force.2.1 1 = .ok (.ifCond .lt (11), 3) := by decide +kernel
theorem d_X_force_4 : decode zy_X_force.2.1 4 = .ok (.iload_n 1, 1) := by decide +kernel
theorem d_X_force_5 : decode zy_X_force.2.1 5 = .ok (.aload_n 0, 1) := by decide +kernel
theorem d_X_force_6 : decode zy_X_force.2.1 6 = .ok (.getfield 32, 3) := by decide +kernel
theorem d_X_force_9 : decode zy_X_force.2.1 9 = .ok (.if_icmp .lt (6), 3) := by decide +kernel
theorem d_X_force_12 : decode zy_X_force.2.1 12 = .ok (.bipush (-2), 2) := by decide +kernel
theorem d_X_force_14 : decode zy_X_force.2.1 14 = .ok (.ireturn, 1) := by decide +kernel
theorem d_X_force_15 : decode zy_X_force.2.1 15 = .ok (.aload_n 0, 1) := by decide +kernel
theorem d_X_force_16 : decode zy_X_force.2.1 16 = .ok (.getfield 35, 3) := by decide +kernel
theorem d_X_force_19 : decode zy_X_force.2.1 19 = .ok (.istore_n 2, 1) := by decide +kernel
theorem d_X_force_20 : decode zy_X_force.2.1 20 = .ok (.aload_n 0, 1) := by decide +kernel
theorem d_X_force_21 : decode zy_X_force.2.1 21 = .ok (.iload_n 1, 1) := by decide +kernel
theorem d_X_force_22 : decode zy_X_force.2.1 22 = .ok (.putfield 35, 3) := by decide +kernel
theorem d_X_force_25 : decode zy_X_force.2.1 25 = .ok (.iload_n 2, 1) := by decide +kernel
theorem d_X_force_26 : decode zy_X_force.2.1 26 = .ok (.ireturn, 1) := by decide +kernel
theorem d_X_isFlag_0 : decode zy_X_isFlag.2.1 0 = .ok (.iload_n 0, 1) := by decide +kernel
theorem d_X_isFlag_1 : decode zy_X_isFlag.2.1 1 = .ok (.ifCond .eq (8), 3) := by decide +kernel
theorem d_X_isFlag_4 : decode zy_X_isFlag.2.1 4 = .ok (.iload_n 0, 1) := by decide +kernel
theorem d_X_isFlag_5 : decode zy_X_isFlag.2.1 5 = .ok (.iconst 1, 1) := by decide +kernel
theorem d_X_isFlag_6 : decode zy_X_isFlag.2.1 6 = .ok (.if_icmp .ne (7), 3) := by decide +kernel
theorem d_X_isFlag_9 : decode zy_X_isFlag.2.1 9 = .ok (.iconst 1, 1) := by decide +kernel
theorem d_X_isFlag_10 : decode zy_X_isFlag.2.1 10 = .ok (.goto (4), 3) := by decide +kernel
theorem d_X_isFlag_13 : decode zy_X_isFlag.2.1 13 = .ok (.iconst 0, 1) := by decide +kernel
theorem d_X_isFlag_14 : decode zy_X_isFlag.2.1 14 = .ok (.ireturn, 1) := by decide +kernel
theorem d_X_isPerson_0 : decode zy_X_isPerson.2.1 0 = .ok (.iload_n 1, 1) := by decide +kernel
theorem d_X_isPerson_1 : decode zy_X_isPerson.2.1 1 = .ok (.ifCond .lt (15), 3) := by decide +kernel
theorem d_X_isPerson_4 : decode zy_X_isPerson.2.1 4 = .ok (.iload_n 1, 1) := by decide +kernel
theorem d_X_isPerson_5 : decode zy_X_isPerson.2.1 5 = .ok (.aload_n 0, 1) := by decide +kernel
theorem d_X_isPerson_6 : decode zy_X_isPerson.2.1 6 = .ok (.getfield 22, 3) := by decide +kernel
theorem d_X_isPerson_9 : decode zy_X_isPerson.2.1 9 = .ok (.if_icmp .ge (7), 3) := by decide +kernel
theorem d_X_isPerson_12 : decode zy_X_isPerson.2.1 12 = .ok (.iconst 1, 1) := by decide +kernel
theorem d_X_isPerson_13 : decode zy_X_isPerson.2.1 13 = .ok (.goto (4), 3) := by decide +kernel
theorem d_X_isPerson_16 : decode zy_X_isPerson.2.1 16 = .ok (.iconst 0, 1) := by decide +kernel
theorem d_X_isPerson_17 : decode zy_X_isPerson.2.1 17 = .ok (.ireturn, 1) := by decide +kernel
theorem d_X_isSheet_0 : decode zy_X_isSheet.2.1 0 = .ok (.iload_n 0, 1) := by decide +kernel
theorem d_X_isSheet_1 : decode zy_X_isSheet.2.1 1 = .ok (.ifCond .lt (12), 3) := by decide +kernel
theorem d_X_isSheet_4 : decode zy_X_isSheet.2.1 4 = .ok (.iload_n 0, 1) := by decide +kernel
theorem d_X_isSheet_5 : decode zy_X_isSheet.2.1 5 = .ok (.iconst 4, 1) := by decide +kernel
theorem d_X_isSheet_6 : decode zy_X_isSheet.2.1 6 = .ok (.if_icmp .ge (7), 3) := by decide +kernel
theorem d_X_isSheet_9 : decode zy_X_isSheet.2.1 9 = .ok (.iconst 1, 1) := by decide +kernel
theorem d_X_isSheet_10 : decode zy_X_isSheet.2.1 10 = .ok (.goto (4), 3) := by decide +kernel
theorem d_X_isSheet_13 : decode zy_X_isSheet.2.1 13 = .ok (.iconst 0, 1) := by decide +kernel
theorem d_X_isSheet_14 : decode zy_X_isSheet.2.1 14 = .ok (.ireturn, 1) := by decide +kernel
theorem d_X_tenthsOf_0 : decode zy_X_tenthsOf.2.1 0 = .ok (.lconst 1, 1) := by decide +kernel
theorem d_X_tenthsOf_1 : decode zy_X_tenthsOf.2.1 1 = .ok (.lstore_n 2, 1) := by decide +kernel
theorem d_X_tenthsOf_2 : decode zy_X_tenthsOf.2.1 2 = .ok (.iconst 0, 1) := by decide +kernel
theorem d_X_tenthsOf_3 : decode zy_X_tenthsOf.2.1 3 = .ok (.istore 4, 2) := by decide +kernel
theorem d_X_tenthsOf_5 : decode zy_X_tenthsOf.2.1 5 = .ok (.iload 4, 2) := by decide +kernel
theorem d_X_tenthsOf_7 : decode zy_X_tenthsOf.2.1 7 = .ok (.aload_n 0, 1) := by decide +kernel
theorem d_X_tenthsOf_8 : decode zy_X_tenthsOf.2.1 8 = .ok (.getfield 22, 3) := by decide +kernel
theorem d_X_tenthsOf_11 : decode zy_X_tenthsOf.2.1 11 = .ok (.if_icmp .ge (50), 3) := by decide +kernel
theorem d_X_tenthsOf_14 : decode zy_X_tenthsOf.2.1 14 = .ok (.lload_n 2, 1) := by decide +kernel
theorem d_X_tenthsOf_15 : decode zy_X_tenthsOf.2.1 15 = .ok (.iload_n 1, 1) := by decide +kernel
theorem d_X_tenthsOf_16 : decode zy_X_tenthsOf.2.1 16 = .ok (.iload 4, 2) := by decide +kernel
theorem d_X_tenthsOf_18 : decode zy_X_tenthsOf.2.1 18 = .ok (.ishr, 1) := by decide +kernel
theorem d_X_tenthsOf_19 : decode zy_X_tenthsOf.2.1 19 = .ok (.iconst 1, 1) := by decide +kernel
theorem d_X_tenthsOf_20 : decode zy_X_tenthsOf.2.1 20 = .ok (.iand, 1) := by decide +kernel
theorem d_X_tenthsOf_21 : decode zy_X_tenthsOf.2.1 21 = .ok (.iconst 1, 1) := by decide +kernel
theorem d_X_tenthsOf_22 : decode zy_X_tenthsOf.2.1 22 = .ok (.if_icmp .ne (17), 3) := by decide +kernel
theorem d_X_tenthsOf_25 : decode zy_X_tenthsOf.2.1 25 = .ok (.aload_n 0, 1) := by decide +kernel
theorem d_X_tenthsOf_26 : decode zy_X_tenthsOf.2.1 26 = .ok (.getfield 18, 3) := by decide +kernel
theorem d_X_tenthsOf_29 : decode zy_X_tenthsOf.2.1 29 = .ok (.iload 4, 2) := by decide +kernel
theorem d_X_tenthsOf_31 : decode zy_X_tenthsOf.2.1 31 = .ok (.aaload, 1) := by decide +kernel
theorem d_X_tenthsOf_32 : decode zy_X_tenthsOf.2.1 32 = .ok (.getfield 157, 3) := by decide +kernel
theorem d_X_tenthsOf_35 : decode zy_X_tenthsOf.2.1 35 = .ok (.i2l, 1) := by decide +kernel
theorem d_X_tenthsOf_36 : decode zy_X_tenthsOf.2.1 36 = .ok (.goto (17), 3) := by decide +kernel
theorem d_X_tenthsOf_39 : decode zy_X_tenthsOf.2.1 39 = .ok (.bipush 10, 2) := by decide +kernel
theorem d_X_tenthsOf_41 : decode zy_X_tenthsOf.2.1 41 = .ok (.aload_n 0, 1) := by decide +kernel
theorem d_X_tenthsOf_42 : decode zy_X_tenthsOf.2.1 42 = .ok (.getfield 18, 3) := by decide +kernel
theorem d_X_tenthsOf_45 : decode zy_X_tenthsOf.2.1 45 = .ok (.iload 4, 2) := by decide +kernel
theorem d_X_tenthsOf_47 : decode zy_X_tenthsOf.2.1 47 = .ok (.aaload, 1) := by decide +kernel
theorem d_X_tenthsOf_48 : decode zy_X_tenthsOf.2.1 48 = .ok (.getfield 157, 3) := by decide +kernel
theorem d_X_tenthsOf_51 : decode zy_X_tenthsOf.2.1 51 = .ok (.isub, 1) := by decide +kernel
theorem d_X_tenthsOf_52 : decode zy_X_tenthsOf.2.1 52 = .ok (.i2l, 1) := by decide +kernel
theorem d_X_tenthsOf_53 : decode zy_X_tenthsOf.2.1 53 = .ok (.lmul, 1) := by decide +kernel
theorem d_X_tenthsOf_54 : decode zy_X_tenthsOf.2.1 54 = .ok (.lstore_n 2, 1) := by decide +kernel
theorem d_X_tenthsOf_55 : decode zy_X_tenthsOf.2.1 55 = .ok (.iinc 4 1, 3) := by decide +kernel
theorem d_X_tenthsOf_58 : decode zy_X_tenthsOf.2.1 58 = .ok (.goto (-53), 3) := by decide +kernel
theorem d_X_tenthsOf_61 : decode zy_X_tenthsOf.2.1 61 = .ok (.lload_n 2, 1) := by decide +kernel
theorem d_X_tenthsOf_62 : decode zy_X_tenthsOf.2.1 62 = .ok (.lreturn, 1) := by decide +kernel
theorem d_X_years_0 : decode zy_X_years.2.1 0 = .ok (.iload_n 1, 1) := by decide +kernel
theorem d_X_years_1 : decode zy_X_years.2.1 1 = .ok (.iconst 1, 1) := by decide +kernel
theorem d_X_years_2 : decode zy_X_years.2.1 2 = .ok (.if_icmp .lt (9), 3) := by decide +kernel
theorem d_X_years_5 : decode zy_X_years.2.1 5 = .ok (.iload_n 1, 1) := by decide +kernel
theorem d_X_years_6 : decode zy_X_years.2.1 6 = .ok (.bipush 9, 2) := by decide +kernel
theorem d_X_years_8 : decode zy_X_years.2.1 8 = .ok (.if_icmp .le (6), 3) := by decide +kernel
theorem d_X_years_11 : decode zy_X_years.2.1 11 = .ok (.bipush (-2), 2) := by decide +kernel
theorem d_X_years_13 : decode zy_X_years.2.1 13 = .ok (.ireturn, 1) := by decide +kernel
theorem d_X_years_14 : decode zy_X_years.2.1 14 = .ok (.aload_n 0, 1) := by decide +kernel
theorem d_X_years_15 : decode zy_X_years.2.1 15 = .ok (.getfield 10, 3) := by decide +kernel
theorem d_X_years_18 : decode zy_X_years.2.1 18 = .ok (.getfield 126, 3) := by decide +kernel
theorem d_X_years_21 : decode zy_X_years.2.1 21 = .ok (.iload_n 1, 1) := by decide +kernel
theorem d_X_years_22 : decode zy_X_years.2.1 22 = .ok (.iadd, 1) := by decide +kernel
theorem d_X_years_23 : decode zy_X_years.2.1 23 = .ok (.bipush 99, 2) := by decide +kernel
theorem d_X_years_25 : decode zy_X_years.2.1 25 = .ok (.if_icmp .le (6), 3) := by decide +kernel
theorem d_X_years_28 : decode zy_X_years.2.1 28 = .ok (.bipush (-4), 2) := by decide +kernel
theorem d_X_years_30 : decode zy_X_years.2.1 30 = .ok (.ireturn, 1) := by decide +kernel
theorem d_X_years_31 : decode zy_X_years.2.1 31 = .ok (.aload_n 0, 1) := by decide +kernel
theorem d_X_years_32 : decode zy_X_years.2.1 32 = .ok (.getfield 10, 3) := by decide +kernel
theorem d_X_years_35 : decode zy_X_years.2.1 35 = .ok (.dup, 1) := by decide +kernel
theorem d_X_years_36 : decode zy_X_years.2.1 36 = .ok (.getfield 126, 3) := by decide +kernel
theorem d_X_years_39 : decode zy_X_years.2.1 39 = .ok (.iload_n 1, 1) := by decide +kernel
theorem d_X_years_40 : decode zy_X_years.2.1 40 = .ok (.iadd, 1) := by decide +kernel
theorem d_X_years_41 : decode zy_X_years.2.1 41 = .ok (.putfield 126, 3) := by decide +kernel
theorem d_X_years_44 : decode zy_X_years.2.1 44 = .ok (.aload_n 0, 1) := by decide +kernel
theorem d_X_years_45 : decode zy_X_years.2.1 45 = .ok (.getfield 10, 3) := by decide +kernel
theorem d_X_years_48 : decode zy_X_years.2.1 48 = .ok (.getfield 126, 3) := by decide +kernel
theorem d_X_years_51 : decode zy_X_years.2.1 51 = .ok (.ireturn, 1) := by decide +kernel
theorem d_Course_init_0 : decode zy_Course_init.2.1 0 = .ok (.aload_n 0, 1) := by decide +kernel
theorem d_Course_init_1 : decode zy_Course_init.2.1 1 = .ok (.invokespecial 3, 3) := by decide +kernel
theorem d_Course_init_4 : decode zy_Course_init.2.1 4 = .ok (.aload_n 0, 1) := by decide +kernel
theorem d_Course_init_5 : decode zy_Course_init.2.1 5 = .ok (.iconst 0, 1) := by decide +kernel
theorem d_Course_init_6 : decode zy_Course_init.2.1 6 = .ok (.putfield 9, 3) := by decide +kernel
theorem d_Course_init_9 : decode zy_Course_init.2.1 9 = .ok (.aload_n 0, 1) := by decide +kernel
theorem d_Course_init_10 : decode zy_Course_init.2.1 10 = .ok (.bipush 42, 2) := by decide +kernel
theorem d_Course_init_12 : decode zy_Course_init.2.1 12 = .ok (.newarray .int, 2) := by decide +kernel
theorem d_Course_init_14 : decode zy_Course_init.2.1 14 = .ok (.putfield 15, 3) := by decide +kernel
theorem d_Course_init_17 : decode zy_Course_init.2.1 17 = .ok (.aload_n 0, 1) := by decide +kernel
theorem d_Course_init_18 : decode zy_Course_init.2.1 18 = .ok (.bipush 42, 2) := by decide +kernel
theorem d_Course_init_20 : decode zy_Course_init.2.1 20 = .ok (.newarray .int, 2) := by decide +kernel
theorem d_Course_init_22 : decode zy_Course_init.2.1 22 = .ok (.putfield 19, 3) := by decide +kernel
theorem d_Course_init_25 : decode zy_Course_init.2.1 25 = .ok (.aload_n 0, 1) := by decide +kernel
theorem d_Course_init_26 : decode zy_Course_init.2.1 26 = .ok (.bipush 42, 2) := by decide +kernel
theorem d_Course_init_28 : decode zy_Course_init.2.1 28 = .ok (.newarray .long, 2) := by decide +kernel
theorem d_Course_init_30 : decode zy_Course_init.2.1 30 = .ok (.putfield 22, 3) := by decide +kernel
theorem d_Course_init_33 : decode zy_Course_init.2.1 33 = .ok (.aload_n 0, 1) := by decide +kernel
theorem d_Course_init_34 : decode zy_Course_init.2.1 34 = .ok (.iconst 0, 1) := by decide +kernel
theorem d_Course_init_35 : decode zy_Course_init.2.1 35 = .ok (.putfield 26, 3) := by decide +kernel
theorem d_Course_init_38 : decode zy_Course_init.2.1 38 = .ok (.aload_n 0, 1) := by decide +kernel
theorem d_Course_init_39 : decode zy_Course_init.2.1 39 = .ok (.iconst 0, 1) := by decide +kernel
theorem d_Course_init_40 : decode zy_Course_init.2.1 40 = .ok (.putfield 29, 3) := by decide +kernel
theorem d_Course_init_43 : decode zy_Course_init.2.1 43 = .ok (.aload_n 0, 1) := by decide +kernel
theorem d_Course_init_44 : decode zy_Course_init.2.1 44 = .ok (.iconst 0, 1) := by decide +kernel
theorem d_Course_init_45 : decode zy_Course_init.2.1 45 = .ok (.putfield 32, 3) := by decide +kernel
theorem d_Course_init_48 : decode zy_Course_init.2.1 48 = .ok (.return_, 1) := by decide +kernel
theorem d_Course_clear_0 : decode zy_Course_clear.2.1 0 = .ok (.aload_n 0, 1) := by decide +kernel
theorem d_Course_clear_1 : decode zy_Course_clear.2.1 1 = .ok (.iconst 0, 1) := by decide +kernel
theorem d_Course_clear_2 : decode zy_Course_clear.2.1 2 = .ok (.putfield 9, 3) := by decide +kernel
theorem d_Course_clear_5 : decode zy_Course_clear.2.1 5 = .ok (.aload_n 0, 1) := by decide +kernel
theorem d_Course_clear_6 : decode zy_Course_clear.2.1 6 = .ok (.iconst 0, 1) := by decide +kernel
theorem d_Course_clear_7 : decode zy_Course_clear.2.1 7 = .ok (.putfield 26, 3) := by decide +kernel
theorem d_Course_clear_10 : decode zy_Course_clear.2.1 10 = .ok (.aload_n 0, 1) := by decide +kernel
theorem d_Course_clear_11 : decode zy_Course_clear.2.1 11 = .ok (.iconst 0, 1) := by decide +kernel
theorem d_Course_clear_12 : decode zy_Course_clear.2.1 12 = .ok (.putfield 29, 3) := by decide +kernel
theorem d_Course_clear_15 : decode zy_Course_clear.2.1 15 = .ok (.aload_n 0, 1) := by decide +kernel
theorem d_Course_clear_16 : decode zy_Course_clear.2.1 16 = .ok (.iconst 0, 1) := by decide +kernel
theorem d_Course_clear_17 : decode zy_Course_clear.2.1 17 = .ok (.putfield 32, 3) := by decide +kernel
theorem d_Course_clear_20 : decode zy_Course_clear.2.1 20 = .ok (.return_, 1) := by decide +kernel
theorem d_Course_keepCheaper_0 : decode zy_Course_keepCheaper.2.1 0 = .ok (.aload_n 0, 1) := by decide +kernel
theorem d_Course_keepCheaper_1 : decode zy_Course_keepCheaper.2.1 1 = .ok (.getfield 26, 3) := by decide +kernel
theorem d_Course_keepCheaper_4 : decode zy_Course_keepCheaper.2.1 4 = .ok (.iconst (-1), 1) := by decide +kernel
theorem d_Course_keepCheaper_5 : decode zy_Course_keepCheaper.2.1 5 = .ok (.if_icmp .eq (11), 3) := by decide +kernel
theorem d_Course_keepCheaper_8 : decode zy_Course_keepCheaper.2.1 8 = .ok (.iload_n 2, 1) := by decide +kernel
theorem d_Course_keepCheaper_9 : decode zy_Course_keepCheaper.2.1 9 = .ok (.aload_n 0, 1) := by decide +kernel
theorem d_Course_keepCheaper_10 : decode zy_Course_keepCheaper.2.1 10 = .ok (.getfield 29, 3) := by decide +kernel
theorem d_Course_keepCheaper_13 : decode zy_Course_keepCheaper.2.1 13 = .ok (.if_icmp .ge (18), 3) := by decide +kernel
theorem d_Course_keepCheaper_16 : decode zy_Course_keepCheaper.2.1 16 = .ok (.aload_n 0, 1) := by decide +kernel
theorem d_Course_keepCheaper_17 : decode zy_Course_keepCheaper.2.1 17 = .ok (.iload_n 1, 1) := by decide +kernel
theorem d_Course_keepCheaper_18 : decode zy_Course_keepCheaper.2.1 18 = .ok (.putfield 26, 3) := by decide +kernel
theorem d_Course_keepCheaper_21 : decode zy_Course_keepCheaper.2.1 21 = .ok (.aload_n 0, 1) := by decide +kernel
theorem d_Course_keepCheaper_22 : decode zy_Course_keepCheaper.2.1 22 = .ok (.iload_n 2, 1) := by decide +kernel
theorem d_Course_keepCheaper_23 : decode zy_Course_keepCheaper.2.1 23 = .ok (.putfield 29, 3) := by decide +kernel
theorem d_Course_keepCheaper_26 : decode zy_Course_keepCheaper.2.1 26 = .ok (.aload_n 0, 1) := by decide +kernel
theorem d_Course_keepCheaper_27 : decode zy_Course_keepCheaper.2.1 27 = .ok (.iload_n 3, 1) := by decide +kernel
theorem d_Course_keepCheaper_28 : decode zy_Course_keepCheaper.2.1 28 = .ok (.putfield 32, 3) := by decide +kernel
theorem d_Course_keepCheaper_31 : decode zy_Course_keepCheaper.2.1 31 = .ok (.return_, 1) := by decide +kernel
theorem d_Course_offer_0 : decode zy_Course_offer.2.1 0 = .ok (.aload_n 0, 1) := by decide +kernel
theorem d_Course_offer_1 : decode zy_Course_offer.2.1 1 = .ok (.getfield 9, 3) := by decide +kernel
theorem d_Course_offer_4 : decode zy_Course_offer.2.1 4 = .ok (.bipush 42, 2) := by decide +kernel
theorem d_Course_offer_6 : decode zy_Course_offer.2.1 6 = .ok (.if_icmp .ge (43), 3) := by decide +kernel
theorem d_Course_offer_9 : decode zy_Course_offer.2.1 9 = .ok (.aload_n 0, 1) := by decide +kernel
theorem d_Course_offer_10 : decode zy_Course_offer.2.1 10 = .ok (.getfield 15, 3) := by decide +kernel
theorem d_Course_offer_13 : decode zy_Course_offer.2.1 13 = .ok (.aload_n 0, 1) := by decide +kernel
theorem d_Course_offer_14 : decode zy_Course_offer.2.1 14 = .ok (.getfield 9, 3) := by decide +kernel
theorem d_Course_offer_17 : decode zy_Course_offer.2.1 17 = .ok (.iload_n 1, 1) := by decide +kernel
theorem d_Course_offer_18 : decode zy_Course_offer.2.1 18 = .ok (.iastore, 1) := by decide +kernel
theorem d_Course_offer_19 : decode zy_Course_offer.2.1 19 = .ok (.aload_n 0, 1) := by decide +kernel
theorem d_Course_offer_20 : decode zy_Course_offer.2.1 20 = .ok (.getfield 19, 3) := by decide +kernel
theorem d_Course_offer_23 : decode zy_Course_offer.2.1 23 = .ok (.aload_n 0, 1) := by decide +kernel
theorem d_Course_offer_24 : decode zy_Course_offer.2.1 24 = .ok (.getfield 9, 3) := by decide +kernel
theorem d_Course_offer_27 : decode zy_Course_offer.2.1 27 = .ok (.iload_n 2, 1) := by decide +kernel
theorem d_Course_offer_28 : decode zy_Course_offer.2.1 28 = .ok (.iastore, 1) := by decide +kernel
theorem d_Course_offer_29 : decode zy_Course_offer.2.1 29 = .ok (.aload_n 0, 1) := by decide +kernel
theorem d_Course_offer_30 : decode zy_Course_offer.2.1 30 = .ok (.getfield 22, 3) := by decide +kernel
theorem d_Course_offer_33 : decode zy_Course_offer.2.1 33 = .ok (.aload_n 0, 1) := by decide +kernel
theorem d_Course_offer_34 : decode zy_Course_offer.2.1 34 = .ok (.getfield 9, 3) := by decide +kernel
theorem d_Course_offer_37 : decode zy_Course_offer.2.1 37 = .ok (.lload_n 3, 1) := by decide +kernel
theorem d_Course_offer_38 : decode zy_Course_offer.2.1 38 = .ok (.lastore, 1) := by decide +kernel
theorem d_Course_offer_39 : decode zy_Course_offer.2.1 39 = .ok (.aload_n 0, 1) := by decide +kernel
theorem d_Course_offer_40 : decode zy_Course_offer.2.1 40 = .ok (.dup, 1) := by decide +kernel
theorem d_Course_offer_41 : decode zy_Course_offer.2.1 41 = .ok (.getfield 9, 3) := by decide +kernel
theorem d_Course_offer_44 : decode zy_Course_offer.2.1 44 = .ok (.iconst 1, 1) := by decide +kernel
theorem d_Course_offer_45 : decode zy_Course_offer.2.1 45 = .ok (.iadd, 1) := by decide +kernel
theorem d_Course_offer_46 : decode zy_Course_offer.2.1 46 = .ok (.putfield 9, 3) := by decide +kernel
theorem d_Course_offer_49 : decode zy_Course_offer.2.1 49 = .ok (.return_, 1) := by decide +kernel
theorem d_Cover_init_0 : decode zy_Cover_init.2.1 0 = .ok (.aload_n 0, 1) := by decide +kernel
theorem d_Cover_init_1 : decode zy_Cover_init.2.1 1 = .ok (.invokespecial 3, 3) := by decide +kernel
theorem d_Cover_init_4 : decode zy_Cover_init.2.1 4 = .ok (.aload_n 0, 1) := by decide +kernel
theorem d_Cover_init_5 : decode zy_Cover_init.2.1 5 = .ok (.iconst 0, 1) := by decide +kernel
theorem d_Cover_init_6 : decode zy_Cover_init.2.1 6 = .ok (.putfield 9, 3) := by decide +kernel
theorem d_Cover_init_9 : decode zy_Cover_init.2.1 9 = .ok (.aload_n 0, 1) := by decide +kernel
theorem d_Cover_init_10 : decode zy_Cover_init.2.1 10 = .ok (.bipush 6, 2) := by decide +kernel
theorem d_Cover_init_12 : decode zy_Cover_init.2.1 12 = .ok (.newarray .int, 2) := by decide +kernel
theorem d_Cover_init_14 : decode zy_Cover_init.2.1 14 = .ok (.putfield 15, 3) := by decide +kernel
theorem d_Cover_init_17 : decode zy_Cover_init.2.1 17 = .ok (.aload_n 0, 1) := by decide +kernel
theorem d_Cover_init_18 : decode zy_Cover_init.2.1 18 = .ok (.bipush 64, 2) := by decide +kernel
theorem d_Cover_init_20 : decode zy_Cover_init.2.1 20 = .ok (.newarray .int, 2) := by decide +kernel
theorem d_Cover_init_22 : decode zy_Cover_init.2.1 22 = .ok (.putfield 19, 3) := by decide +kernel
theorem d_Cover_init_25 : decode zy_Cover_init.2.1 25 = .ok (.return_, 1) := by decide +kernel
theorem d_Cover_helpedBy_0 : decode zy_Cover_helpedBy.2.1 0 = .ok (.lconst 0, 1) := by decide +kernel
theorem d_Cover_helpedBy_1 : decode zy_Cover_helpedBy.2.1 1 = .ok (.lstore_n 3, 1) := by decide +kernel
theorem d_Cover_helpedBy_2 : decode zy_Cover_helpedBy.2.1 2 = .ok (.iconst 1, 1) := by decide +kernel
theorem d_Cover_helpedBy_3 : decode zy_Cover_helpedBy.2.1 3 = .ok (.istore 5, 2) := by decide +kernel
theorem d_Cover_helpedBy_5 : decode zy_Cover_helpedBy.2.1 5 = .ok (.iload 5, 2) := by decide +kernel
theorem d_Cover_helpedBy_7 : decode zy_Cover_helpedBy.2.1 7 = .ok (.bipush 64, 2) := by decide +kernel
theorem d_Cover_helpedBy_9 : decode zy_Cover_helpedBy.2.1 9 = .ok (.if_icmp .ge (40), 3) := by decide +kernel
theorem d_Cover_helpedBy_12 : decode zy_Cover_helpedBy.2.1 12 = .ok (.iload 5, 2) := by decide +kernel
theorem d_Cover_helpedBy_14 : decode zy_Cover_helpedBy.2.1 14 = .ok (.iload_n 2, 1) := by decide +kernel
theorem d_Cover_helpedBy_15 : decode zy_Cover_helpedBy.2.1 15 = .ok (.ishr, 1) := by decide +kernel
theorem d_Cover_helpedBy_16 : decode zy_Cover_helpedBy.2.1 16 = .ok (.iconst 1, 1) := by decide +kernel
theorem d_Cover_helpedBy_17 : decode zy_Cover_helpedBy.2.1 17 = .ok (.iand, 1) := by decide +kernel
theorem d_Cover_helpedBy_18 : decode zy_Cover_helpedBy.2.1 18 = .ok (.iconst 1, 1) := by decide +kernel
theorem d_Cover_helpedBy_19 : decode zy_Cover_helpedBy.2.1 19 = .ok (.if_icmp .ne (24), 3) := by decide +kernel
theorem d_Cover_helpedBy_22 : decode zy_Cover_helpedBy.2.1 22 = .ok (.aload_n 0, 1) := by decide +kernel
theorem d_Cover_helpedBy_23 : decode zy_Cover_helpedBy.2.1 23 = .ok (.getfield 19, 3) := by decide +kernel
theorem d_Cover_helpedBy_26 : decode zy_Cover_helpedBy.2.1 26 = .ok (.iload 5, 2) := by decide +kernel
theorem d_Cover_helpedBy_28 : decode zy_Cover_helpedBy.2.1 28 = .ok (.iaload, 1) := by decide +kernel
theorem d_Cover_helpedBy_29 : decode zy_Cover_helpedBy.2.1 29 = .ok (.iload_n 1, 1) := by decide +kernel
theorem d_Cover_helpedBy_30 : decode zy_Cover_helpedBy.2.1 30 = .ok (.ishr, 1) := by decide +kernel
theorem d_Cover_helpedBy_31 : decode zy_Cover_helpedBy.2.1 31 = .ok (.iconst 1, 1) := by decide +kernel
theorem d_Cover_helpedBy_32 : decode zy_Cover_helpedBy.2.1 32 = .ok (.iand, 1) := by decide +kernel
theorem d_Cover_helpedBy_33 : decode zy_Cover_helpedBy.2.1 33 = .ok (.ifCond .ne (10), 3) := by decide +kernel
theorem d_Cover_helpedBy_36 : decode zy_Cover_helpedBy.2.1 36 = .ok (.lload_n 3, 1) := by decide +kernel
theorem d_Cover_helpedBy_37 : decode zy_Cover_helpedBy.2.1 37 = .ok (.lconst 1, 1) := by decide +kernel
theorem d_Cover_helpedBy_38 : decode zy_Cover_helpedBy.2.1 38 = .ok (.iload 5, 2) := by decide +kernel
theorem d_Cover_helpedBy_40 : decode zy_Cover_helpedBy.2.1 40 = .ok (.lshl, 1) := by decide +kernel
theorem d_Cover_helpedBy_41 : decode zy_Cover_helpedBy.2.1 41 = .ok (.lor, 1) := by decide +kernel
theorem d_Cover_helpedBy_42 : decode zy_Cover_helpedBy.2.1 42 = .ok (.lstore_n 3, 1) := by decide +kernel
theorem d_Cover_helpedBy_43 : decode zy_Cover_helpedBy.2.1 43 = .ok (.iinc 5 1, 3) := by decide +kernel
theorem d_Cover_helpedBy_46 : decode zy_Cover_helpedBy.2.1 46 = .ok (.goto (-41), 3) := by decide +kernel
theorem d_Cover_helpedBy_49 : decode zy_Cover_helpedBy.2.1 49 = .ok (.lload_n 3, 1) := by decide +kernel
theorem d_Cover_helpedBy_50 : decode zy_Cover_helpedBy.2.1 50 = .ok (.lreturn, 1) := by decide +kernel
theorem d_Cover_spread_0 : decode zy_Cover_spread.2.1 0 = .ok (.iconst 0, 1) := by decide +kernel
theorem d_Cover_spread_1 : decode zy_Cover_spread.2.1 1 = .ok (.istore_n 1, 1) := by decide +kernel
theorem d_Cover_spread_2 : decode zy_Cover_spread.2.1 2 = .ok (.iload_n 1, 1) := by decide +kernel
theorem d_Cover_spread_3 : decode zy_Cover_spread.2.1 3 = .ok (.bipush 6, 2) := by decide +kernel
theorem d_Cover_spread_5 : decode zy_Cover_spread.2.1 5 = .ok (.if_icmp .ge (47), 3) := by decide +kernel
theorem d_Cover_spread_8 : decode zy_Cover_spread.2.1 8 = .ok (.iconst 1, 1) := by decide +kernel
theorem d_Cover_spread_9 : decode zy_Cover_spread.2.1 9 = .ok (.iload_n 1, 1) := by decide +kernel
theorem d_Cover_spread_10 : decode zy_Cover_spread.2.1 10 = .ok (.ishl, 1) := by decide +kernel
theorem d_Cover_spread_11 : decode zy_Cover_spread.2.1 11 = .ok (.istore_n 2, 1) := by decide +kernel
theorem d_Cover_spread_12 : decode zy_Cover_spread.2.1 12 = .ok (.iconst 0, 1) := by decide +kernel
theorem d_Cover_spread_13 : decode zy_Cover_spread.2.1 13 = .ok (.istore_n 3, 1) := by decide +kernel
theorem d_Cover_spread_14 : decode zy_Cover_spread.2.1 14 = .ok (.iload_n 3, 1) := by decide +kernel
theorem d_Cover_spread_15 : decode zy_Cover_spread.2.1 15 = .ok (.iload_n 2, 1) := by decide +kernel
theorem d_Cover_spread_16 : decode zy_Cover_spread.2.1 16 = .ok (.if_icmp .ge (30), 3) := by decide +kernel
theorem d_Cover_spread_19 : decode zy_Cover_spread.2.1 19 = .ok (.aload_n 0, 1) := by decide +kernel
theorem d_Cover_spread_20 : decode zy_Cover_spread.2.1 20 = .ok (.getfield 19, 3) := by decide +kernel
theorem d_Cover_spread_23 : decode zy_Cover_spread.2.1 23 = .ok (.iload_n 2, 1) := by decide +kernel
theorem d_Cover_spread_24 : decode zy_Cover_spread.2.1 24 = .ok (.iload_n 3, 1) := by decide +kernel
theorem d_Cover_spread_25 : decode zy_Cover_spread.2.1 25 = .ok (.iadd, 1) := by decide +kernel
theorem d_Cover_spread_26 : decode zy_Cover_spread.2.1 26 = .ok (.aload_n 0, 1) := by decide +kernel
theorem d_Cover_spread_27 : decode zy_Cover_spread.2.1 27 = .ok (.getfield 19, 3) := by decide +kernel
theorem d_Cover_spread_30 : decode zy_Cover_spread.2.1 30 = .ok (.iload_n 3, 1) := by decide +kernel
theorem d_Cover_spread_31 : decode zy_Cover_spread.2.1 31 = .ok (.iaload, 1) := by decide +kernel
theorem d_Cover_spread_32 : decode zy_Cover_spread.2.1 32 = .ok (.aload_n 0, 1) := by decide +kernel
theorem d_Cover_spread_33 : decode zy_Cover_spread.2.1 33 = .ok (.getfield 15, 3) := by decide +kernel
theorem d_Cover_spread_36 : decode zy_Cover_spread.2.1 36 = .ok (.iload_n 1, 1) := by decide +kernel
theorem d_Cover_spread_37 : decode zy_Cover_spread.2.1 37 = .ok (.iaload, 1) := by decide +kernel
theorem d_Cover_spread_38 : decode zy_Cover_spread.2.1 38 = .ok (.ior, 1) := by decide +kernel
theorem d_Cover_spread_39 : decode zy_Cover_spread.2.1 39 = .ok (.iastore, 1) := by decide +kernel
theorem d_Cover_spread_40 : decode zy_Cover_spread.2.1 40 = .ok (.iinc 3 1, 3) := by decide +kernel
theorem d_Cover_spread_43 : decode zy_Cover_spread.2.1 43 = .ok (.goto (-29), 3) := by decide +kernel
theorem d_Cover_spread_46 : decode zy_Cover_spread.2.1 46 = .ok (.iinc 1 1, 3) := by decide +kernel
theorem d_Cover_spread_49 : decode zy_Cover_spread.2.1 49 = .ok (.goto (-47), 3) := by decide +kernel
theorem d_Cover_spread_52 : decode zy_Cover_spread.2.1 52 = .ok (.return_, 1) := by decide +kernel
theorem d_Office_init_0 : decode zy_Office_init.2.1 0 = .ok (.aload_n 0, 1) := by decide +kernel
theorem d_Office_init_1 : decode zy_Office_init.2.1 1 = .ok (.invokespecial 3, 3) := by decide +kernel
theorem d_Office_init_4 : decode zy_Office_init.2.1 4 = .ok (.aload_n 0, 1) := by decide +kernel
theorem d_Office_init_5 : decode zy_Office_init.2.1 5 = .ok (.iconst 0, 1) := by decide +kernel
theorem d_Office_init_6 : decode zy_Office_init.2.1 6 = .ok (.putfield 9, 3) := by decide +kernel
theorem d_Office_init_9 : decode zy_Office_init.2.1 9 = .ok (.aload_n 0, 1) := by decide +kernel
theorem d_Office_init_10 : decode zy_Office_init.2.1 10 = .ok (.iconst 0, 1) := by decide +kernel
theorem d_Office_init_11 : decode zy_Office_init.2.1 11 = .ok (.putfield 15, 3) := by decide +kernel
theorem d_Office_init_14 : decode zy_Office_init.2.1 14 = .ok (.aload_n 0, 1) := by decide +kernel
theorem d_Office_init_15 : decode zy_Office_init.2.1 15 = .ok (.bipush 6, 2) := by decide +kernel
theorem d_Office_init_17 : decode zy_Office_init.2.1 17 = .ok (.newarray .int, 2) := by decide +kernel
theorem d_Office_init_19 : decode zy_Office_init.2.1 19 = .ok (.putfield 18, 3) := by decide +kernel
theorem d_Office_init_22 : decode zy_Office_init.2.1 22 = .ok (.aload_n 0, 1) := by decide +kernel
theorem d_Office_init_23 : decode zy_Office_init.2.1 23 = .ok (.iconst 0, 1) := by decide +kernel
theorem d_Office_init_24 : decode zy_Office_init.2.1 24 = .ok (.putfield 22, 3) := by decide +kernel
theorem d_Office_init_27 : decode zy_Office_init.2.1 27 = .ok (.return_, 1) := by decide +kernel
theorem d_Office_has_0 : decode zy_Office_has.2.1 0 = .ok (.iload_n 1, 1) := by decide +kernel
theorem d_Office_has_1 : decode zy_Office_has.2.1 1 = .ok (.ifCond .lt (15), 3) := by decide +kernel
theorem d_Office_has_4 : decode zy_Office_has.2.1 4 = .ok (.iload_n 1, 1) := by decide +kernel
theorem d_Office_has_5 : decode zy_Office_has.2.1 5 = .ok (.aload_n 0, 1) := by decide +kernel
theorem d_Office_has_6 : decode zy_Office_has.2.1 6 = .ok (.getfield 9, 3) := by decide +kernel
theorem d_Office_has_9 : decode zy_Office_has.2.1 9 = .ok (.if_icmp .ge (7), 3) := by decide +kernel
theorem d_Office_has_12 : decode zy_Office_has.2.1 12 = .ok (.iconst 1, 1) := by decide +kernel
theorem d_Office_has_13 : decode zy_Office_has.2.1 13 = .ok (.goto (4), 3) := by decide +kernel
theorem d_Office_has_16 : decode zy_Office_has.2.1 16 = .ok (.iconst 0, 1) := by decide +kernel
theorem d_Office_has_17 : decode zy_Office_has.2.1 17 = .ok (.ireturn, 1) := by decide +kernel
theorem d_Office_needs_0 : decode zy_Office_needs.2.1 0 = .ok (.aload_n 0, 1) := by decide +kernel
theorem d_Office_needs_1 : decode zy_Office_needs.2.1 1 = .ok (.getfield 15, 3) := by decide +kernel
theorem d_Office_needs_4 : decode zy_Office_needs.2.1 4 = .ok (.iload_n 1, 1) := by decide +kernel
theorem d_Office_needs_5 : decode zy_Office_needs.2.1 5 = .ok (.ishr, 1) := by decide +kernel
theorem d_Office_needs_6 : decode zy_Office_needs.2.1 6 = .ok (.iconst 1, 1) := by decide +kernel
theorem d_Office_needs_7 : decode zy_Office_needs.2.1 7 = .ok (.iand, 1) := by decide +kernel
theorem d_Office_needs_8 : decode zy_Office_needs.2.1 8 = .ok (.iconst 1, 1) := by decide +kernel
theorem d_Office_needs_9 : decode zy_Office_needs.2.1 9 = .ok (.if_icmp .ne (7), 3) := by decide +kernel
theorem d_Office_needs_12 : decode zy_Office_needs.2.1 12 = .ok (.iconst 1, 1) := by decide +kernel
theorem d_Office_needs_13 : decode zy_Office_needs.2.1 13 = .ok (.goto (4), 3) := by decide +kernel
theorem d_Office_needs_16 : decode zy_Office_needs.2.1 16 = .ok (.iconst 0, 1) := by decide +kernel
theorem d_Office_needs_17 : decode zy_Office_needs.2.1 17 = .ok (.ireturn, 1) := by decide +kernel
theorem d_Office_open_0 : decode zy_Office_open.2.1 0 = .ok (.aload_n 0, 1) := by decide +kernel
theorem d_Office_open_1 : decode zy_Office_open.2.1 1 = .ok (.getfield 9, 3) := by decide +kernel
theorem d_Office_open_4 : decode zy_Office_open.2.1 4 = .ok (.bipush 6, 2) := by decide +kernel
theorem d_Office_open_6 : decode zy_Office_open.2.1 6 = .ok (.if_icmp .lt (6), 3) := by decide +kernel
theorem d_Office_open_9 : decode zy_Office_open.2.1 9 = .ok (.bipush (-4), 2) := by decide +kernel
theorem d_Office_open_11 : decode zy_Office_open.2.1 11 = .ok (.ireturn, 1) := by decide +kernel
theorem d_Office_open_12 : decode zy_Office_open.2.1 12 = .ok (.iload_n 1, 1) := by decide +kernel
theorem d_Office_open_13 : decode zy_Office_open.2.1 13 = .ok (.ifCond .eq (18), 3) := by decide +kernel
theorem d_Office_open_16 : decode zy_Office_open.2.1 16 = .ok (.aload_n 0, 1) := by decide +kernel
theorem d_Office_open_17 : decode zy_Office_open.2.1 17 = .ok (.dup, 1) := by decide +kernel
theorem d_Office_open_18 : decode zy_Office_open.2.1 18 = .ok (.getfield 15, 3) := by decide +kernel
theorem d_Office_open_21 : decode zy_Office_open.2.1 21 = .ok (.iconst 1, 1) := by decide +kernel
theorem d_Office_open_22 : decode zy_Office_open.2.1 22 = .ok (.aload_n 0, 1) := by decide +kernel
theorem d_Office_open_23 : decode zy_Office_open.2.1 23 = .ok (.getfield 9, 3) := by decide +kernel
theorem d_Office_open_26 : decode zy_Office_open.2.1 26 = .ok (.ishl, 1) := by decide +kernel
theorem d_Office_open_27 : decode zy_Office_open.2.1 27 = .ok (.ior, 1) := by decide +kernel
theorem d_Office_open_28 : decode zy_Office_open.2.1 28 = .ok (.putfield 15, 3) := by decide +kernel
theorem d_Office_open_31 : decode zy_Office_open.2.1 31 = .ok (.aload_n 0, 1) := by decide +kernel
theorem d_Office_open_32 : decode zy_Office_open.2.1 32 = .ok (.getfield 18, 3) := by decide +kernel
theorem d_Office_open_35 : decode zy_Office_open.2.1 35 = .ok (.aload_n 0, 1) := by decide +kernel
theorem d_Office_open_36 : decode zy_Office_open.2.1 36 = .ok (.getfield 9, 3) := by decide +kernel
theorem d_Office_open_39 : decode zy_Office_open.2.1 39 = .ok (.iload_n 2, 1) := by decide +kernel
theorem d_Office_open_40 : decode zy_Office_open.2.1 40 = .ok (.iastore, 1) := by decide +kernel
theorem d_Office_open_41 : decode zy_Office_open.2.1 41 = .ok (.aload_n 0, 1) := by decide +kernel
theorem d_Office_open_42 : decode zy_Office_open.2.1 42 = .ok (.dup, 1) := by decide +kernel
theorem d_Office_open_43 : decode zy_Office_open.2.1 43 = .ok (.getfield 9, 3) := by decide +kernel
theorem d_Office_open_46 : decode zy_Office_open.2.1 46 = .ok (.iconst 1, 1) := by decide +kernel
theorem d_Office_open_47 : decode zy_Office_open.2.1 47 = .ok (.iadd, 1) := by decide +kernel
theorem d_Office_open_48 : decode zy_Office_open.2.1 48 = .ok (.putfield 9, 3) := by decide +kernel
theorem d_Office_open_51 : decode zy_Office_open.2.1 51 = .ok (.aload_n 0, 1) := by decide +kernel
theorem d_Office_open_52 : decode zy_Office_open.2.1 52 = .ok (.getfield 9, 3) := by decide +kernel
theorem d_Office_open_55 : decode zy_Office_open.2.1 55 = .ok (.iconst 1, 1) := by decide +kernel
theorem d_Office_open_56 : decode zy_Office_open.2.1 56 = .ok (.isub, 1) := by decide +kernel
theorem d_Office_open_57 : decode zy_Office_open.2.1 57 = .ok (.ireturn, 1) := by decide +kernel
theorem d_Person_become_0 : decode zy_Person_become.2.1 0 = .ok (.aload_n 0, 1) := by decide +kernel
theorem d_Person_become_1 : decode zy_Person_become.2.1 1 = .ok (.iload_n 1, 1) := by decide +kernel
theorem d_Person_become_2 : decode zy_Person_become.2.1 2 = .ok (.putfield 9, 3) := by decide +kernel
theorem d_Person_become_5 : decode zy_Person_become.2.1 5 = .ok (.aload_n 0, 1) := by decide +kernel
theorem d_Person_become_6 : decode zy_Person_become.2.1 6 = .ok (.iload_n 2, 1) := by decide +kernel
theorem d_Person_become_7 : decode zy_Person_become.2.1 7 = .ok (.putfield 15, 3) := by decide +kernel
theorem d_Person_become_10 : decode zy_Person_become.2.1 10 = .ok (.aload_n 0, 1) := by decide +kernel
theorem d_Person_become_11 : decode zy_Person_become.2.1 11 = .ok (.iload_n 3, 1) := by decide +kernel
theorem d_Person_become_12 : decode zy_Person_become.2.1 12 = .ok (.putfield 18, 3) := by decide +kernel
theorem d_Person_become_15 : decode zy_Person_become.2.1 15 = .ok (.aload_n 0, 1) := by decide +kernel
theorem d_Person_become_16 : decode zy_Person_become.2.1 16 = .ok (.iload 4, 2) := by decide +kernel
theorem d_Person_become_18 : decode zy_Person_become.2.1 18 = .ok (.putfield 21, 3) := by decide +kernel
theorem d_Person_become_21 : decode zy_Person_become.2.1 21 = .ok (.return_, 1) := by decide +kernel
theorem d_Person_isA_0 : decode zy_Person_isA.2.1 0 = .ok (.aload_n 0, 1) := by decide +kernel
theorem d_Person_isA_1 : decode zy_Person_isA.2.1 1 = .ok (.getfield 9, 3) := by decide +kernel
theorem d_Person_isA_4 : decode zy_Person_isA.2.1 4 = .ok (.istore_n 2, 1) := by decide +kernel
theorem d_Person_isA_5 : decode zy_Person_isA.2.1 5 = .ok (.iconst 0, 1) := by decide +kernel
theorem d_Person_isA_6 : decode zy_Person_isA.2.1 6 = .ok (.istore_n 3, 1) := by decide +kernel
theorem d_Person_isA_7 : decode zy_Person_isA.2.1 7 = .ok (.iload_n 3, 1) := by decide +kernel
theorem d_Person_isA_8 : decode zy_Person_isA.2.1 8 = .ok (.bipush 6, 2) := by decide +kernel
theorem d_Person_isA_10 : decode zy_Person_isA.2.1 10 = .ok (.if_icmp .ge (26), 3) := by decide +kernel
theorem d_Person_isA_13 : decode zy_Person_isA.2.1 13 = .ok (.iload_n 2, 1) := by decide +kernel
theorem d_Person_isA_14 : decode zy_Person_isA.2.1 14 = .ok (.ifCond .lt (22), 3) := by decide +kernel
theorem d_Person_isA_17 : decode zy_Person_isA.2.1 17 = .ok (.iload_n 2, 1) := by decide +kernel
theorem d_Person_isA_18 : decode zy_Person_isA.2.1 18 = .ok (.iload_n 1, 1) := by decide +kernel
theorem d_Person_isA_19 : decode zy_Person_isA.2.1 19 = .ok (.if_icmp .ne (5), 3) := by decide +kernel
theorem d_Person_isA_22 : decode zy_Person_isA.2.1 22 = .ok (.iconst 1, 1) := by decide +kernel
theorem d_Person_isA_23 : decode zy_Person_isA.2.1 23 = .ok (.ireturn, 1) := by decide +kernel
theorem d_Person_isA_24 : decode zy_Person_isA.2.1 24 = .ok (.getstatic 49, 3) := by decide +kernel
theorem d_Person_isA_27 : decode zy_Person_isA.2.1 27 = .ok (.iload_n 2, 1) := by decide +kernel
theorem d_Person_isA_28 : decode zy_Person_isA.2.1 28 = .ok (.iaload, 1) := by decide +kernel
theorem d_Person_isA_29 : decode zy_Person_isA.2.1 29 = .ok (.istore_n 2, 1) := by decide +kernel
theorem d_Person_isA_30 : decode zy_Person_isA.2.1 30 = .ok (.iinc 3 1, 3) := by decide +kernel
theorem d_Person_isA_33 : decode zy_Person_isA.2.1 33 = .ok (.goto (-26), 3) := by decide +kernel
theorem d_Person_isA_36 : decode zy_Person_isA.2.1 36 = .ok (.iconst 0, 1) := by decide +kernel
theorem d_Person_isA_37 : decode zy_Person_isA.2.1 37 = .ok (.ireturn, 1) := by decide +kernel
theorem d_Person_isBarred_0 : decode zy_Person_isBarred.2.1 0 = .ok (.aload_n 0, 1) := by decide +kernel
theorem d_Person_isBarred_1 : decode zy_Person_isBarred.2.1 1 = .ok (.getfield 31, 3) := by decide +kernel
theorem d_Person_isBarred_4 : decode zy_Person_isBarred.2.1 4 = .ok (.iload_n 1, 1) := by decide +kernel
theorem d_Person_isBarred_5 : decode zy_Person_isBarred.2.1 5 = .ok (.ishr, 1) := by decide +kernel
theorem d_Person_isBarred_6 : decode zy_Person_isBarred.2.1 6 = .ok (.iconst 1, 1) := by decide +kernel
theorem d_Person_isBarred_7 : decode zy_Person_isBarred.2.1 7 = .ok (.iand, 1) := by decide +kernel
theorem d_Person_isBarred_8 : decode zy_Person_isBarred.2.1 8 = .ok (.iconst 1, 1) := by decide +kernel
theorem d_Person_isBarred_9 : decode zy_Person_isBarred.2.1 9 = .ok (.if_icmp .ne (7), 3) := by decide +kernel
theorem d_Person_isBarred_12 : decode zy_Person_isBarred.2.1 12 = .ok (.iconst 1, 1) := by decide +kernel
theorem d_Person_isBarred_13 : decode zy_Person_isBarred.2.1 13 = .ok (.goto (4), 3) := by decide +kernel
theorem d_Person_isBarred_16 : decode zy_Person_isBarred.2.1 16 = .ok (.iconst 0, 1) := by decide +kernel
theorem d_Person_isBarred_17 : decode zy_Person_isBarred.2.1 17 = .ok (.ireturn, 1) := by decide +kernel
theorem d_Person_lessonsHad_0 : decode zy_Person_lessonsHad.2.1 0 = .ok (.iconst 0, 1) := by decide +kernel
theorem d_Person_lessonsHad_1 : decode zy_Person_lessonsHad.2.1 1 = .ok (.istore_n 1, 1) := by decide +kernel
theorem d_Person_lessonsHad_2 : decode zy_Person_lessonsHad.2.1 2 = .ok (.iconst 0, 1) := by decide +kernel
theorem d_Person_lessonsHad_3 : decode zy_Person_lessonsHad.2.1 3 = .ok (.istore_n 2, 1) := by decide +kernel
theorem d_Person_lessonsHad_4 : decode zy_Person_lessonsHad.2.1 4 = .ok (.iload_n 2, 1) := by decide +kernel
theorem d_Person_lessonsHad_5 : decode zy_Person_lessonsHad.2.1 5 = .ok (.bipush 6, 2) := by decide +kernel
theorem d_Person_lessonsHad_7 : decode zy_Person_lessonsHad.2.1 7 = .ok (.if_icmp .ge (22), 3) := by decide +kernel
theorem d_Person_lessonsHad_10 : decode zy_Person_lessonsHad.2.1 10 = .ok (.aload_n 0, 1) := by decide +kernel
theorem d_Person_lessonsHad_11 : decode zy_Person_lessonsHad.2.1 11 = .ok (.getfield 27, 3) := by decide +kernel
theorem d_Person_lessonsHad_14 : decode zy_Person_lessonsHad.2.1 14 = .ok (.iload_n 2, 1) := by decide +kernel
theorem d_Person_lessonsHad_15 : decode zy_Person_lessonsHad.2.1 15 = .ok (.iaload, 1) := by decide +kernel
theorem d_Person_lessonsHad_16 : decode zy_Person_lessonsHad.2.1 16 = .ok (.iconst (-1), 1) := by decide +kernel
theorem d_Person_lessonsHad_17 : decode zy_Person_lessonsHad.2.1 17 = .ok (.if_icmp .eq (6), 3) := by decide +kernel
theorem d_Person_lessonsHad_20 : decode zy_Person_lessonsHad.2.1 20 = .ok (.iinc 1 1, 3) := by decide +kernel
theorem d_Person_lessonsHad_23 : decode zy_Person_lessonsHad.2.1 23 = .ok (.iinc 2 1, 3) := by decide +kernel
theorem d_Person_lessonsHad_26 : decode zy_Person_lessonsHad.2.1 26 = .ok (.goto (-22), 3) := by decide +kernel
theorem d_Person_lessonsHad_29 : decode zy_Person_lessonsHad.2.1 29 = .ok (.iload_n 1, 1) := by decide +kernel
theorem d_Person_lessonsHad_30 : decode zy_Person_lessonsHad.2.1 30 = .ok (.ireturn, 1) := by decide +kernel
theorem d_Person_setBar_0 : decode zy_Person_setBar.2.1 0 = .ok (.aload_n 0, 1) := by decide +kernel
theorem d_Person_setBar_1 : decode zy_Person_setBar.2.1 1 = .ok (.iload_n 2, 1) := by decide +kernel
theorem d_Person_setBar_2 : decode zy_Person_setBar.2.1 2 = .ok (.ifCond .eq (14), 3) := by decide +kernel
theorem d_Person_setBar_5 : decode zy_Person_setBar.2.1 5 = .ok (.aload_n 0, 1) := by decide +kernel
theorem d_Person_setBar_6 : decode zy_Person_setBar.2.1 6 = .ok (.getfield 31, 3) := by decide +kernel
theorem d_Person_setBar_9 : decode zy_Person_setBar.2.1 9 = .ok (.iconst 1, 1) := by decide +kernel
theorem d_Person_setBar_10 : decode zy_Person_setBar.2.1 10 = .ok (.iload_n 1, 1) := by decide +kernel
theorem d_Person_setBar_11 : decode zy_Person_setBar.2.1 11 = .ok (.ishl, 1) := by decide +kernel
theorem d_Person_setBar_12 : decode zy_Person_setBar.2.1 12 = .ok (.ior, 1) := by decide +kernel
theorem d_Person_setBar_13 : decode zy_Person_setBar.2.1 13 = .ok (.goto (13), 3) := by decide +kernel
theorem d_Person_setBar_16 : decode zy_Person_setBar.2.1 16 = .ok (.aload_n 0, 1) := by decide +kernel
theorem d_Person_setBar_17 : decode zy_Person_setBar.2.1 17 = .ok (.getfield 31, 3) := by decide +kernel
theorem d_Person_setBar_20 : decode zy_Person_setBar.2.1 20 = .ok (.iconst 1, 1) := by decide +kernel
theorem d_Person_setBar_21 : decode zy_Person_setBar.2.1 21 = .ok (.iload_n 1, 1) := by decide +kernel
theorem d_Person_setBar_22 : decode zy_Person_setBar.2.1 22 = .ok (.ishl, 1) := by decide +kernel
theorem d_Person_setBar_23 : decode zy_Person_setBar.2.1 23 = .ok (.iconst (-1), 1) := by decide +kernel
theorem d_Person_setBar_24 : decode zy_Person_setBar.2.1 24 = .ok (.ixor, 1) := by decide +kernel
theorem d_Person_setBar_25 : decode zy_Person_setBar.2.1 25 = .ok (.iand, 1) := by decide +kernel
theorem d_Person_setBar_26 : decode zy_Person_setBar.2.1 26 = .ok (.putfield 31, 3) := by decide +kernel
theorem d_Person_setBar_29 : decode zy_Person_setBar.2.1 29 = .ok (.return_, 1) := by decide +kernel
theorem d_Person_since_0 : decode zy_Person_since.2.1 0 = .ok (.aload_n 0, 1) := by decide +kernel
theorem d_Person_since_1 : decode zy_Person_since.2.1 1 = .ok (.getfield 27, 3) := by decide +kernel
theorem d_Person_since_4 : decode zy_Person_since.2.1 4 = .ok (.iload_n 1, 1) := by decide +kernel
theorem d_Person_since_5 : decode zy_Person_since.2.1 5 = .ok (.iaload, 1) := by decide +kernel
theorem d_Person_since_6 : decode zy_Person_since.2.1 6 = .ok (.iconst (-1), 1) := by decide +kernel
theorem d_Person_since_7 : decode zy_Person_since.2.1 7 = .ok (.if_icmp .ne (8), 3) := by decide +kernel
theorem d_Person_since_10 : decode zy_Person_since.2.1 10 = .ok (.bipush 99, 2) := by decide +kernel
theorem d_Person_since_12 : decode zy_Person_since.2.1 12 = .ok (.goto (11), 3) := by decide +kernel
theorem d_Person_since_15 : decode zy_Person_since.2.1 15 = .ok (.iload_n 2, 1) := by decide +kernel
theorem d_Person_since_16 : decode zy_Person_since.2.1 16 = .ok (.aload_n 0, 1) := by decide +kernel
theorem d_Person_since_17 : decode zy_Person_since.2.1 17 = .ok (.getfield 27, 3) := by decide +kernel
theorem d_Person_since_20 : decode zy_Person_since.2.1 20 = .ok (.iload_n 1, 1) := by decide +kernel
theorem d_Person_since_21 : decode zy_Person_since.2.1 21 = .ok (.iaload, 1) := by decide +kernel
theorem d_Person_since_22 : decode zy_Person_since.2.1 22 = .ok (.isub, 1) := by decide +kernel
theorem d_Person_since_23 : decode zy_Person_since.2.1 23 = .ok (.ireturn, 1) := by decide +kernel
theorem d_Person_work_0 : decode zy_Person_work.2.1 0 = .ok (.aload_n 0, 1) := by decide +kernel
theorem d_Person_work_1 : decode zy_Person_work.2.1 1 = .ok (.getfield 27, 3) := by decide +kernel
theorem d_Person_work_4 : decode zy_Person_work.2.1 4 = .ok (.iload_n 1, 1) := by decide +kernel
theorem d_Person_work_5 : decode zy_Person_work.2.1 5 = .ok (.iaload, 1) := by decide +kernel
theorem d_Person_work_6 : decode zy_Person_work.2.1 6 = .ok (.iconst (-1), 1) := by decide +kernel
theorem d_Person_work_7 : decode zy_Person_work.2.1 7 = .ok (.if_icmp .eq (10), 3) := by decide +kernel
theorem d_Person_work_10 : decode zy_Person_work.2.1 10 = .ok (.aload_n 0, 1) := by decide +kernel
theorem d_Person_work_11 : decode zy_Person_work.2.1 11 = .ok (.getfield 27, 3) := by decide +kernel
theorem d_Person_work_14 : decode zy_Person_work.2.1 14 = .ok (.iload_n 1, 1) := by decide +kernel
theorem d_Person_work_15 : decode zy_Person_work.2.1 15 = .ok (.iload_n 2, 1) := by decide +kernel
theorem d_Person_work_16 : decode zy_Person_work.2.1 16 = .ok (.iastore, 1) := by decide +kernel
theorem d_Person_work_17 : decode zy_Person_work.2.1 17 = .ok (.iload_n 1, 1) := by decide +kernel
theorem d_Person_work_18 : decode zy_Person_work.2.1 18 = .ok (.aload_n 0, 1) := by decide +kernel
theorem d_Person_work_19 : decode zy_Person_work.2.1 19 = .ok (.getfield 15, 3) := by decide +kernel
theorem d_Person_work_22 : decode zy_Person_work.2.1 22 = .ok (.if_icmp .eq (13), 3) := by decide +kernel
theorem d_Person_work_25 : decode zy_Person_work.2.1 25 = .ok (.aload_n 0, 1) := by decide +kernel
theorem d_Person_work_26 : decode zy_Person_work.2.1 26 = .ok (.dup, 1) := by decide +kernel
theorem d_Person_work_27 : decode zy_Person_work.2.1 27 = .ok (.getfield 24, 3) := by decide +kernel
theorem d_Person_work_30 : decode zy_Person_work.2.1 30 = .ok (.iconst 1, 1) := by decide +kernel
theorem d_Person_work_31 : decode zy_Person_work.2.1 31 = .ok (.iadd, 1) := by decide +kernel
theorem d_Person_work_32 : decode zy_Person_work.2.1 32 = .ok (.putfield 24, 3) := by decide +kernel
theorem d_Person_work_35 : decode zy_Person_work.2.1 35 = .ok (.return_, 1) := by decide +kernel
theorem d_Plan_init_0 : decode zy_Plan_init.2.1 0 = .ok (.aload_n 0, 1) := by decide +kernel
theorem d_Plan_init_1 : decode zy_Plan_init.2.1 1 = .ok (.invokespecial 3, 3) := by decide +kernel
theorem d_Plan_init_4 : decode zy_Plan_init.2.1 4 = .ok (.aload_n 0, 1) := by decide +kernel
theorem d_Plan_init_5 : decode zy_Plan_init.2.1 5 = .ok (.iconst 0, 1) := by decide +kernel
theorem d_Plan_init_6 : decode zy_Plan_init.2.1 6 = .ok (.putfield 9, 3) := by decide +kernel
theorem d_Plan_init_9 : decode zy_Plan_init.2.1 9 = .ok (.aload_n 0, 1) := by decide +kernel
theorem d_Plan_init_10 : decode zy_Plan_init.2.1 10 = .ok (.iconst 0, 1) := by decide +kernel
theorem d_Plan_init_11 : decode zy_Plan_init.2.1 11 = .ok (.putfield 15, 3) := by decide +kernel
theorem d_Plan_init_14 : decode zy_Plan_init.2.1 14 = .ok (.aload_n 0, 1) := by decide +kernel
theorem d_Plan_init_15 : decode zy_Plan_init.2.1 15 = .ok (.bipush 42, 2) := by decide +kernel
theorem d_Plan_init_17 : decode zy_Plan_init.2.1 17 = .ok (.newarray .int, 2) := by decide +kernel
theorem d_Plan_init_19 : decode zy_Plan_init.2.1 19 = .ok (.putfield 18, 3) := by decide +kernel
theorem d_Plan_init_22 : decode zy_Plan_init.2.1 22 = .ok (.aload_n 0, 1) := by decide +kernel
theorem d_Plan_init_23 : decode zy_Plan_init.2.1 23 = .ok (.sipush 896, 3) := by decide +kernel
theorem d_Plan_init_26 : decode zy_Plan_init.2.1 26 = .ok (.newarray .int, 2) := by decide +kernel
theorem d_Plan_init_28 : decode zy_Plan_init.2.1 28 = .ok (.putfield 22, 3) := by decide +kernel
theorem d_Plan_init_31 : decode zy_Plan_init.2.1 31 = .ok (.aload_n 0, 1) := by decide +kernel
theorem d_Plan_init_32 : decode zy_Plan_init.2.1 32 = .ok (.bipush 6, 2) := by decide +kernel
theorem d_Plan_init_34 : decode zy_Plan_init.2.1 34 = .ok (.newarray .int, 2) := by decide +kernel
theorem d_Plan_init_36 : decode zy_Plan_init.2.1 36 = .ok (.putfield 25, 3) := by decide +kernel
theorem d_Plan_init_39 : decode zy_Plan_init.2.1 39 = .ok (.return_, 1) := by decide +kernel
theorem d_Plan_worthWith_0 : decode zy_Plan_worthWith.2.1 0 = .ok (.iload_n 1, 1) := by decide +kernel
theorem d_Plan_worthWith_1 : decode zy_Plan_worthWith.2.1 1 = .ok (.iconst 1, 1) := by decide +kernel
theorem d_Plan_worthWith_2 : decode zy_Plan_worthWith.2.1 2 = .ok (.iadd, 1) := by decide +kernel
theorem d_Plan_worthWith_3 : decode zy_Plan_worthWith.2.1 3 = .ok (.sipush 128, 3) := by decide +kernel
theorem d_Plan_worthWith_6 : decode zy_Plan_worthWith.2.1 6 = .ok (.imul, 1) := by decide +kernel
theorem d_Plan_worthWith_7 : decode zy_Plan_worthWith.2.1 7 = .ok (.istore 4, 2) := by decide +kernel
theorem d_Plan_worthWith_9 : decode zy_Plan_worthWith.2.1 9 = .ok (.iload_n 3, 1) := by decide +kernel
theorem d_Plan_worthWith_10 : decode zy_Plan_worthWith.2.1 10 = .ok (.iconst (-1), 1) := by decide +kernel
theorem d_Plan_worthWith_11 : decode zy_Plan_worthWith.2.1 11 = .ok (.if_icmp .ne (29), 3) := by decide +kernel
theorem d_Plan_worthWith_14 : decode zy_Plan_worthWith.2.1 14 = .ok (.aload_n 0, 1) := by decide +kernel
theorem d_Plan_worthWith_15 : decode zy_Plan_worthWith.2.1 15 = .ok (.getfield 15, 3) := by decide +kernel
theorem d_Plan_worthWith_18 : decode zy_Plan_worthWith.2.1 18 = .ok (.iload_n 1, 1) := by decide +kernel
theorem d_Plan_worthWith_19 : decode zy_Plan_worthWith.2.1 19 = .ok (.ishr, 1) := by decide +kernel
theorem d_Plan_worthWith_20 : decode zy_Plan_worthWith.2.1 20 = .ok (.iconst 1, 1) := by decide +kernel
theorem d_Plan_worthWith_21 : decode zy_Plan_worthWith.2.1 21 = .ok (.iand, 1) := by decide +kernel
theorem d_Plan_worthWith_22 : decode zy_Plan_worthWith.2.1 22 = .ok (.iconst 1, 1) := by decide +kernel
theorem d_Plan_worthWith_23 : decode zy_Plan_worthWith.2.1 23 = .ok (.if_icmp .ne (7), 3) := by decide +kernel
theorem d_Plan_worthWith_26 : decode zy_Plan_worthWith.2.1 26 = .ok (.iconst (-1), 1) := by decide +kernel
theorem d_Plan_worthWith_27 : decode zy_Plan_worthWith.2.1 27 = .ok (.goto (12), 3) := by decide +kernel
theorem d_Plan_worthWith_30 : decode zy_Plan_worthWith.2.1 30 = .ok (.aload_n 0, 1) := by decide +kernel
theorem d_Plan_worthWith_31 : decode zy_Plan_worthWith.2.1 31 = .ok (.getfield 22, 3) := by decide +kernel
theorem d_Plan_worthWith_34 : decode zy_Plan_worthWith.2.1 34 = .ok (.iload 4, 2) := by decide +kernel
theorem d_Plan_worthWith_36 : decode zy_Plan_worthWith.2.1 36 = .ok (.iload_n 2, 1) := by decide +kernel
theorem d_Plan_worthWith_37 : decode zy_Plan_worthWith.2.1 37 = .ok (.iadd, 1) := by decide +kernel
theorem d_Plan_worthWith_38 : decode zy_Plan_worthWith.2.1 38 = .ok (.iaload, 1) := by decide +kernel
theorem d_Plan_worthWith_39 : decode zy_Plan_worthWith.2.1 39 = .ok (.ireturn, 1) := by decide +kernel
theorem d_Plan_worthWith_40 : decode zy_Plan_worthWith.2.1 40 = .ok (.aload_n 0, 1) := by decide +kernel
theorem d_Plan_worthWith_41 : decode zy_Plan_worthWith.2.1 41 = .ok (.getfield 18, 3) := by decide +kernel
theorem d_Plan_worthWith_44 : decode zy_Plan_worthWith.2.1 44 = .ok (.iload_n 1, 1) := by decide +kernel
theorem d_Plan_worthWith_45 : decode zy_Plan_worthWith.2.1 45 = .ok (.bipush 7, 2) := by decide +kernel
theorem d_Plan_worthWith_47 : decode zy_Plan_worthWith.2.1 47 = .ok (.imul, 1) := by decide +kernel
theorem d_Plan_worthWith_48 : decode zy_Plan_worthWith.2.1 48 = .ok (.iload_n 3, 1) := by decide +kernel
theorem d_Plan_worthWith_49 : decode zy_Plan_worthWith.2.1 49 = .ok (.iadd, 1) := by decide +kernel
theorem d_Plan_worthWith_50 : decode zy_Plan_worthWith.2.1 50 = .ok (.iaload, 1) := by decide +kernel
theorem d_Plan_worthWith_51 : decode zy_Plan_worthWith.2.1 51 = .ok (.istore 5, 2) := by decide +kernel
theorem d_Plan_worthWith_53 : decode zy_Plan_worthWith.2.1 53 = .ok (.aload_n 0, 1) := by decide +kernel
theorem d_Plan_worthWith_54 : decode zy_Plan_worthWith.2.1 54 = .ok (.getfield 22, 3) := by decide +kernel
theorem d_Plan_worthWith_57 : decode zy_Plan_worthWith.2.1 57 = .ok (.iload 4, 2) := by decide +kernel
theorem d_Plan_worthWith_59 : decode zy_Plan_worthWith.2.1 59 = .ok (.iload_n 2, 1) := by decide +kernel
theorem d_Plan_worthWith_60 : decode zy_Plan_worthWith.2.1 60 = .ok (.iconst 1, 1) := by decide +kernel
theorem d_Plan_worthWith_61 : decode zy_Plan_worthWith.2.1 61 = .ok (.iload_n 3, 1) := by decide +kernel
theorem d_Plan_worthWith_62 : decode zy_Plan_worthWith.2.1 62 = .ok (.ishl, 1) := by decide +kernel
theorem d_Plan_worthWith_63 : decode zy_Plan_worthWith.2.1 63 = .ok (.iconst (-1), 1) := by decide +kernel
theorem d_Plan_worthWith_64 : decode zy_Plan_worthWith.2.1 64 = .ok (.ixor, 1) := by decide +kernel
theorem d_Plan_worthWith_65 : decode zy_Plan_worthWith.2.1 65 = .ok (.iand, 1) := by decide +kernel
theorem d_Plan_worthWith_66 : decode zy_Plan_worthWith.2.1 66 = .ok (.iadd, 1) := by decide +kernel
theorem d_Plan_worthWith_67 : decode zy_Plan_worthWith.2.1 67 = .ok (.iaload, 1) := by decide +kernel
theorem d_Plan_worthWith_68 : decode zy_Plan_worthWith.2.1 68 = .ok (.istore 6, 2) := by decide +kernel
theorem d_Plan_worthWith_70 : decode zy_Plan_worthWith.2.1 70 = .ok (.iload 5, 2) := by decide +kernel
theorem d_Plan_worthWith_72 : decode zy_Plan_worthWith.2.1 72 = .ok (.iconst (-1), 1) := by decide +kernel
theorem d_Plan_worthWith_73 : decode zy_Plan_worthWith.2.1 73 = .ok (.if_icmp .eq (9), 3) := by decide +kernel
theorem d_Plan_worthWith_76 : decode zy_Plan_worthWith.2.1 76 = .ok (.iload 6, 2) := by decide +kernel
theorem d_Plan_worthWith_78 : decode zy_Plan_worthWith.2.1 78 = .ok (.iconst (-1), 1) := by decide +kernel
theorem d_Plan_worthWith_79 : decode zy_Plan_worthWith.2.1 79 = .ok (.if_icmp .ne (7), 3) := by decide +kernel
theorem d_Plan_worthWith_82 : decode zy_Plan_worthWith.2.1 82 = .ok (.iconst (-1), 1) := by decide +kernel
theorem d_Plan_worthWith_83 : decode zy_Plan_worthWith.2.1 83 = .ok (.goto (8), 3) := by decide +kernel
theorem d_Plan_worthWith_86 : decode zy_Plan_worthWith.2.1 86 = .ok (.iload 5, 2) := by decide +kernel
theorem d_Plan_worthWith_88 : decode zy_Plan_worthWith.2.1 88 = .ok (.iload 6, 2) := by decide +kernel
theorem d_Plan_worthWith_90 : decode zy_Plan_worthWith.2.1 90 = .ok (.iadd, 1) := by decide +kernel
theorem d_Plan_worthWith_91 : decode zy_Plan_worthWith.2.1 91 = .ok (.ireturn, 1) := by decide +kernel
theorem d_Reader_init_0 : decode zy_Reader_init.2.1 0 = .ok (.aload_n 0, 1) := by decide +kernel
theorem d_Reader_init_1 : decode zy_Reader_init.2.1 1 = .ok (.invokespecial 3, 3) := by decide +kernel
theorem d_Reader_init_4 : decode zy_Reader_init.2.1 4 = .ok (.aload_n 0, 1) := by decide +kernel
theorem d_Reader_init_5 : decode zy_Reader_init.2.1 5 = .ok (.iconst 0, 1) := by decide +kernel
theorem d_Reader_init_6 : decode zy_Reader_init.2.1 6 = .ok (.putfield 9, 3) := by decide +kernel
theorem d_Reader_init_9 : decode zy_Reader_init.2.1 9 = .ok (.aload_n 0, 1) := by decide +kernel
theorem d_Reader_init_10 : decode zy_Reader_init.2.1 10 = .ok (.sipush 160, 3) := by decide +kernel
theorem d_Reader_init_13 : decode zy_Reader_init.2.1 13 = .ok (.newarray .int, 2) := by decide +kernel
theorem d_Reader_init_15 : decode zy_Reader_init.2.1 15 = .ok (.putfield 15, 3) := by decide +kernel
theorem d_Reader_init_18 : decode zy_Reader_init.2.1 18 = .ok (.aload_n 0, 1) := by decide +kernel
theorem d_Reader_init_19 : decode zy_Reader_init.2.1 19 = .ok (.iconst 0, 1) := by decide +kernel
theorem d_Reader_init_20 : decode zy_Reader_init.2.1 20 = .ok (.putfield 19, 3) := by decide +kernel
theorem d_Reader_init_23 : decode zy_Reader_init.2.1 23 = .ok (.aload_n 0, 1) := by decide +kernel
theorem d_Reader_init_24 : decode zy_Reader_init.2.1 24 = .ok (.bipush 13, 2) := by decide +kernel
theorem d_Reader_init_26 : decode zy_Reader_init.2.1 26 = .ok (.putfield 22, 3) := by decide +kernel
theorem d_Reader_init_29 : decode zy_Reader_init.2.1 29 = .ok (.aload_n 0, 1) := by decide +kernel
theorem d_Reader_init_30 : decode zy_Reader_init.2.1 30 = .ok (.iconst 0, 1) := by decide +kernel
theorem d_Reader_init_31 : decode zy_Reader_init.2.1 31 = .ok (.putfield 25, 3) := by decide +kernel
theorem d_Reader_init_34 : decode zy_Reader_init.2.1 34 = .ok (.aload_n 0, 1) := by decide +kernel
theorem d_Reader_init_35 : decode zy_Reader_init.2.1 35 = .ok (.iconst 0, 1) := by decide +kernel
theorem d_Reader_init_36 : decode zy_Reader_init.2.1 36 = .ok (.putfield 28, 3) := by decide +kernel
theorem d_Reader_init_39 : decode zy_Reader_init.2.1 39 = .ok (.aload_n 0, 1) := by decide +kernel
theorem d_Reader_init_40 : decode zy_Reader_init.2.1 40 = .ok (.iconst (-1), 1) := by decide +kernel
theorem d_Reader_init_41 : decode zy_Reader_init.2.1 41 = .ok (.putfield 31, 3) := by decide +kernel
theorem d_Reader_init_44 : decode zy_Reader_init.2.1 44 = .ok (.aload_n 0, 1) := by decide +kernel
theorem d_Reader_init_45 : decode zy_Reader_init.2.1 45 = .ok (.aload_n 1, 1) := by decide +kernel
theorem d_Reader_init_46 : decode zy_Reader_init.2.1 46 = .ok (.putfield 34, 3) := by decide +kernel
theorem d_Reader_init_49 : decode zy_Reader_init.2.1 49 = .ok (.return_, 1) := by decide +kernel
theorem d_Reader_isDigit_0 : decode zy_Reader_isDigit.2.1 0 = .ok (.iload_n 0, 1) := by decide +kernel
theorem d_Reader_isDigit_1 : decode zy_Reader_isDigit.2.1 1 = .ok (.bipush 48, 2) := by decide +kernel
theorem d_Reader_isDigit_3 : decode zy_Reader_isDigit.2.1 3 = .ok (.if_icmp .lt (13), 3) := by decide +kernel
theorem d_Reader_isDigit_6 : decode zy_Reader_isDigit.2.1 6 = .ok (.iload_n 0, 1) := by decide +kernel
theorem d_Reader_isDigit_7 : decode zy_Reader_isDigit.2.1 7 = .ok (.bipush 57, 2) := by decide +kernel
theorem d_Reader_isDigit_9 : decode zy_Reader_isDigit.2.1 9 = .ok (.if_icmp .gt (7), 3) := by decide +kernel
theorem d_Reader_isDigit_12 : decode zy_Reader_isDigit.2.1 12 = .ok (.iconst 1, 1) := by decide +kernel
theorem d_Reader_isDigit_13 : decode zy_Reader_isDigit.2.1 13 = .ok (.goto (4), 3) := by decide +kernel
theorem d_Reader_isDigit_16 : decode zy_Reader_isDigit.2.1 16 = .ok (.iconst 0, 1) := by decide +kernel
theorem d_Reader_isDigit_17 : decode zy_Reader_isDigit.2.1 17 = .ok (.ireturn, 1) := by decide +kernel
theorem d_Reader_isLetter_0 : decode zy_Reader_isLetter.2.1 0 = .ok (.iload_n 0, 1) := by decide +kernel
theorem d_Reader_isLetter_1 : decode zy_Reader_isLetter.2.1 1 = .ok (.bipush 97, 2) := by decide +kernel
theorem d_Reader_isLetter_3 : decode zy_Reader_isLetter.2.1 3 = .ok (.if_icmp .lt (13), 3) := by decide +kernel
theorem d_Reader_isLetter_6 : decode zy_Reader_isLetter.2.1 6 = .ok (.iload_n 0, 1) := by decide +kernel
theorem d_Reader_isLetter_7 : decode zy_Reader_isLetter.2.1 7 = .ok (.bipush 122, 2) := by decide +kernel
theorem d_Reader_isLetter_9 : decode zy_Reader_isLetter.2.1 9 = .ok (.if_icmp .gt (7), 3) := by decide +kernel
theorem d_Reader_isLetter_12 : decode zy_Reader_isLetter.2.1 12 = .ok (.iconst 1, 1) := by decide +kernel
theorem d_Reader_isLetter_13 : decode zy_Reader_isLetter.2.1 13 = .ok (.goto (4), 3) := by decide +kernel
theorem d_Reader_isLetter_16 : decode zy_Reader_isLetter.2.1 16 = .ok (.iconst 0, 1) := by decide +kernel
theorem d_Reader_isLetter_17 : decode zy_Reader_isLetter.2.1 17 = .ok (.ireturn, 1) := by decide +kernel
theorem d_Reader_isSign_0 : decode zy_Reader_isSign.2.1 0 = .ok (.iload_n 0, 1) := by decide +kernel
theorem d_Reader_isSign_1 : decode zy_Reader_isSign.2.1 1 = .ok (.bipush 40, 2) := by decide +kernel
theorem d_Reader_isSign_3 : decode zy_Reader_isSign.2.1 3 = .ok (.if_icmp .eq (45), 3) := by decide +kernel
theorem d_Reader_isSign_6 : decode zy_Reader_isSign.2.1 6 = .ok (.iload_n 0, 1) := by decide +kernel
theorem d_Reader_isSign_7 : decode zy_Reader_isSign.2.1 7 = .ok (.bipush 41, 2) := by decide +kernel
theorem d_Reader_isSign_9 : decode zy_Reader_isSign.2.1 9 = .ok (.if_icmp .eq (39), 3) := by decide +kernel
theorem d_Reader_isSign_12 : decode zy_Reader_isSign.2.1 12 = .ok (.iload_n 0, 1) := by decide +kernel
theorem d_Reader_isSign_13 : decode zy_Reader_isSign.2.1 13 = .ok (.bipush 59, 2) := by decide +kernel
theorem d_Reader_isSign_15 : decode zy_Reader_isSign.2.1 15 = .ok (.if_icmp .eq (33), 3) := by decide +kernel
theorem d_Reader_isSign_18 : decode zy_Reader_isSign.2.1 18 = .ok (.iload_n 0, 1) := by decide +kernel
theorem d_Reader_isSign_19 : decode zy_Reader_isSign.2.1 19 = .ok (.bipush 43, 2) := by decide +kernel
theorem d_Reader_isSign_21 : decode zy_Reader_isSign.2.1 21 = .ok (.if_icmp .eq (27), 3) := by decide +kernel
theorem d_Reader_isSign_24 : decode zy_Reader_isSign.2.1 24 = .ok (.iload_n 0, 1) := by decide +kernel
theorem d_Reader_isSign_25 : decode zy_Reader_isSign.2.1 25 = .ok (.bipush 45, 2) := by decide +kernel
theorem d_Reader_isSign_27 : decode zy_Reader_isSign.2.1 27 = .ok (.if_icmp .eq (21), 3) := by decide +kernel
theorem d_Reader_isSign_30 : decode zy_Reader_isSign.2.1 30 = .ok (.iload_n 0, 1) := by decide +kernel
theorem d_Reader_isSign_31 : decode zy_Reader_isSign.2.1 31 = .ok (.bipush 42, 2) := by decide +kernel
theorem d_Reader_isSign_33 : decode zy_Reader_isSign.2.1 33 = .ok (.if_icmp .eq (15), 3) := by decide +kernel
theorem d_Reader_isSign_36 : decode zy_Reader_isSign.2.1 36 = .ok (.iload_n 0, 1) := by decide +kernel
theorem d_Reader_isSign_37 : decode zy_Reader_isSign.2.1 37 = .ok (.bipush 60, 2) := by decide +kernel
theorem d_Reader_isSign_39 : decode zy_Reader_isSign.2.1 39 = .ok (.if_icmp .eq (9), 3) := by decide +kernel
theorem d_Reader_isSign_42 : decode zy_Reader_isSign.2.1 42 = .ok (.iload_n 0, 1) := by decide +kernel
theorem d_Reader_isSign_43 : decode zy_Reader_isSign.2.1 43 = .ok (.bipush 61, 2) := by decide +kernel
theorem d_Reader_isSign_45 : decode zy_Reader_isSign.2.1 45 = .ok (.if_icmp .ne (7), 3) := by decide +kernel
theorem d_Reader_isSign_48 : decode zy_Reader_isSign.2.1 48 = .ok (.iconst 1, 1) := by decide +kernel
theorem d_Reader_isSign_49 : decode zy_Reader_isSign.2.1 49 = .ok (.goto (4), 3) := by decide +kernel
theorem d_Reader_isSign_52 : decode zy_Reader_isSign.2.1 52 = .ok (.iconst 0, 1) := by decide +kernel
theorem d_Reader_isSign_53 : decode zy_Reader_isSign.2.1 53 = .ok (.ireturn, 1) := by decide +kernel
theorem d_Reader_refuse_0 : decode zy_Reader_refuse.2.1 0 = .ok (.aload_n 0, 1) := by decide +kernel
theorem d_Reader_refuse_1 : decode zy_Reader_refuse.2.1 1 = .ok (.getfield 31, 3) := by decide +kernel
theorem d_Reader_refuse_4 : decode zy_Reader_refuse.2.1 4 = .ok (.iconst (-1), 1) := by decide +kernel
theorem d_Reader_refuse_5 : decode zy_Reader_refuse.2.1 5 = .ok (.if_icmp .ne (11), 3) := by decide +kernel
theorem d_Reader_refuse_8 : decode zy_Reader_refuse.2.1 8 = .ok (.aload_n 0, 1) := by decide +kernel
theorem d_Reader_refuse_9 : decode zy_Reader_refuse.2.1 9 = .ok (.aload_n 0, 1) := by decide +kernel
theorem d_Reader_refuse_10 : decode zy_Reader_refuse.2.1 10 = .ok (.getfield 25, 3) := by decide +kernel
theorem d_Reader_refuse_13 : decode zy_Reader_refuse.2.1 13 = .ok (.putfield 31, 3) := by decide +kernel
theorem d_Reader_refuse_16 : decode zy_Reader_refuse.2.1 16 = .ok (.aload_n 0, 1) := by decide +kernel
theorem d_Reader_refuse_17 : decode zy_Reader_refuse.2.1 17 = .ok (.bipush 13, 2) := by decide +kernel
theorem d_Reader_refuse_19 : decode zy_Reader_refuse.2.1 19 = .ok (.putfield 22, 3) := by decide +kernel
theorem d_Reader_refuse_22 : decode zy_Reader_refuse.2.1 22 = .ok (.aload_n 0, 1) := by decide +kernel
theorem d_Reader_refuse_23 : decode zy_Reader_refuse.2.1 23 = .ok (.aload_n 0, 1) := by decide +kernel
theorem d_Reader_refuse_24 : decode zy_Reader_refuse.2.1 24 = .ok (.getfield 9, 3) := by decide +kernel
theorem d_Reader_refuse_27 : decode zy_Reader_refuse.2.1 27 = .ok (.putfield 19, 3) := by decide +kernel
theorem d_Reader_refuse_30 : decode zy_Reader_refuse.2.1 30 = .ok (.return_, 1) := by decide +kernel
theorem d_Reader_take_0 : decode zy_Reader_take.2.1 0 = .ok (.aload_n 0, 1) := by decide +kernel
theorem d_Reader_take_1 : decode zy_Reader_take.2.1 1 = .ok (.getfield 9, 3) := by decide +kernel
theorem d_Reader_take_4 : decode zy_Reader_take.2.1 4 = .ok (.sipush 160, 3) := by decide +kernel
theorem d_Reader_take_7 : decode zy_Reader_take.2.1 7 = .ok (.if_icmp .ge (23), 3) := by decide +kernel
theorem d_Reader_take_10 : decode zy_Reader_take.2.1 10 = .ok (.aload_n 0, 1) := by decide +kernel
theorem d_Reader_take_11 : decode zy_Reader_take.2.1 11 = .ok (.getfield 15, 3) := by decide +kernel
theorem d_Reader_take_14 : decode zy_Reader_take.2.1 14 = .ok (.aload_n 0, 1) := by decide +kernel
theorem d_Reader_take_15 : decode zy_Reader_take.2.1 15 = .ok (.getfield 9, 3) := by decide +kernel
theorem d_Reader_take_18 : decode zy_Reader_take.2.1 18 = .ok (.iload_n 1, 1) := by decide +kernel
theorem d_Reader_take_19 : decode zy_Reader_take.2.1 19 = .ok (.iastore, 1) := by decide +kernel
theorem d_Reader_take_20 : decode zy_Reader_take.2.1 20 = .ok (.aload_n 0, 1) := by decide +kernel
theorem d_Reader_take_21 : decode zy_Reader_take.2.1 21 = .ok (.dup, 1) := by decide +kernel
theorem d_Reader_take_22 : decode zy_Reader_take.2.1 22 = .ok (.getfield 9, 3) := by decide +kernel
theorem d_Reader_take_25 : decode zy_Reader_take.2.1 25 = .ok (.iconst 1, 1) := by decide +kernel
theorem d_Reader_take_26 : decode zy_Reader_take.2.1 26 = .ok (.iadd, 1) := by decide +kernel
theorem d_Reader_take_27 : decode zy_Reader_take.2.1 27 = .ok (.putfield 9, 3) := by decide +kernel
theorem d_Reader_take_30 : decode zy_Reader_take.2.1 30 = .ok (.return_, 1) := by decide +kernel
theorem d_Sheet_init_0 : decode zy_Sheet_init.2.1 0 = .ok (.aload_n 0, 1) := by decide +kernel
theorem d_Sheet_init_1 : decode zy_Sheet_init.2.1 1 = .ok (.invokespecial 3, 3) := by decide +kernel
theorem d_Sheet_init_4 : decode zy_Sheet_init.2.1 4 = .ok (.aload_n 0, 1) := by decide +kernel
theorem d_Sheet_init_5 : decode zy_Sheet_init.2.1 5 = .ok (.iconst (-1), 1) := by decide +kernel
theorem d_Sheet_init_6 : decode zy_Sheet_init.2.1 6 = .ok (.putfield 11, 3) := by decide +kernel
theorem d_Sheet_init_9 : decode zy_Sheet_init.2.1 9 = .ok (.aload_n 0, 1) := by decide +kernel
theorem d_Sheet_init_10 : decode zy_Sheet_init.2.1 10 = .ok (.iconst 0, 1) := by decide +kernel
theorem d_Sheet_init_11 : decode zy_Sheet_init.2.1 11 = .ok (.putfield 15, 3) := by decide +kernel
theorem d_Sheet_init_14 : decode zy_Sheet_init.2.1 14 = .ok (.aload_n 0, 1) := by decide +kernel
theorem d_Sheet_init_15 : decode zy_Sheet_init.2.1 15 = .ok (.bipush 40, 2) := by decide +kernel
theorem d_Sheet_init_17 : decode zy_Sheet_init.2.1 17 = .ok (.newarray .int, 2) := by decide +kernel
theorem d_Sheet_init_19 : decode zy_Sheet_init.2.1 19 = .ok (.putfield 18, 3) := by decide +kernel
theorem d_Sheet_init_22 : decode zy_Sheet_init.2.1 22 = .ok (.return_, 1) := by decide +kernel
theorem d_Sheet_has_0 : decode zy_Sheet_has.2.1 0 = .ok (.iload_n 1, 1) := by decide +kernel
theorem d_Sheet_has_1 : decode zy_Sheet_has.2.1 1 = .ok (.ifCond .lt (15), 3) := by decide +kernel
theorem d_Sheet_has_4 : decode zy_Sheet_has.2.1 4 = .ok (.iload_n 1, 1) := by decide +kernel
theorem d_Sheet_has_5 : decode zy_Sheet_has.2.1 5 = .ok (.aload_n 0, 1) := by decide +kernel
theorem d_Sheet_has_6 : decode zy_Sheet_has.2.1 6 = .ok (.getfield 15, 3) := by decide +kernel
theorem d_Sheet_has_9 : decode zy_Sheet_has.2.1 9 = .ok (.if_icmp .ge (7), 3) := by decide +kernel
theorem d_Sheet_has_12 : decode zy_Sheet_has.2.1 12 = .ok (.iconst 1, 1) := by decide +kernel
theorem d_Sheet_has_13 : decode zy_Sheet_has.2.1 13 = .ok (.goto (4), 3) := by decide +kernel
theorem d_Sheet_has_16 : decode zy_Sheet_has.2.1 16 = .ok (.iconst 0, 1) := by decide +kernel
theorem d_Sheet_has_17 : decode zy_Sheet_has.2.1 17 = .ok (.ireturn, 1) := by decide +kernel
theorem d_Sheet_hasRun_0 : decode zy_Sheet_hasRun.2.1 0 = .ok (.iload_n 1, 1) := by decide +kernel
theorem d_Sheet_hasRun_1 : decode zy_Sheet_hasRun.2.1 1 = .ok (.ifCond .lt (29), 3) := by decide +kernel
theorem d_Sheet_hasRun_4 : decode zy_Sheet_hasRun.2.1 4 = .ok (.iload_n 2, 1) := by decide +kernel
theorem d_Sheet_hasRun_5 : decode zy_Sheet_hasRun.2.1 5 = .ok (.ifCond .lt (25), 3) := by decide +kernel
theorem d_Sheet_hasRun_8 : decode zy_Sheet_hasRun.2.1 8 = .ok (.iload_n 2, 1) := by decide +kernel
theorem d_Sheet_hasRun_9 : decode zy_Sheet_hasRun.2.1 9 = .ok (.aload_n 0, 1) := by decide +kernel
theorem d_Sheet_hasRun_10 : decode zy_Sheet_hasRun.2.1 10 = .ok (.getfield 15, 3) := by decide +kernel
theorem d_Sheet_hasRun_13 : decode zy_Sheet_hasRun.2.1 13 = .ok (.if_icmp .gt (17), 3) := by decide +kernel
theorem d_Sheet_hasRun_16 : decode zy_Sheet_hasRun.2.1 16 = .ok (.iload_n 1, 1) := by decide +kernel
theorem d_Sheet_hasRun_17 : decode zy_Sheet_hasRun.2.1 17 = .ok (.aload_n 0, 1) := by decide +kernel
theorem d_Sheet_hasRun_18 : decode zy_Sheet_hasRun.2.1 18 = .ok (.getfield 15, 3) := by decide +kernel
theorem d_Sheet_hasRun_21 : decode zy_Sheet_hasRun.2.1 21 = .ok (.iload_n 2, 1) := by decide +kernel
theorem d_Sheet_hasRun_22 : decode zy_Sheet_hasRun.2.1 22 = .ok (.isub, 1) := by decide +kernel
theorem d_Sheet_hasRun_23 : decode zy_Sheet_hasRun.2.1 23 = .ok (.if_icmp .gt (7), 3) := by decide +kernel
theorem d_Sheet_hasRun_26 : decode zy_Sheet_hasRun.2.1 26 = .ok (.iconst 1, 1) := by decide +kernel
theorem d_Sheet_hasRun_27 : decode zy_Sheet_hasRun.2.1 27 = .ok (.goto (4), 3) := by decide +kernel
theorem d_Sheet_hasRun_30 : decode zy_Sheet_hasRun.2.1 30 = .ok (.iconst 0, 1) := by decide +kernel
theorem d_Sheet_hasRun_31 : decode zy_Sheet_hasRun.2.1 31 = .ok (.ireturn, 1) := by decide +kernel
theorem d_Sheet_isMissing_0 : decode zy_Sheet_isMissing.2.1 0 = .ok (.aload_n 0, 1) := by decide +kernel
theorem d_Sheet_isMissing_1 : decode zy_Sheet_isMissing.2.1 1 = .ok (.getfield 11, 3) := by decide +kernel
theorem d_Sheet_isMissing_4 : decode zy_Sheet_isMissing.2.1 4 = .ok (.iconst (-1), 1) := by decide +kernel
theorem d_Sheet_isMissing_5 : decode zy_Sheet_isMissing.2.1 5 = .ok (.if_icmp .ne (7), 3) := by decide +kernel
theorem d_Sheet_isMissing_8 : decode zy_Sheet_isMissing.2.1 8 = .ok (.iconst 1, 1) := by decide +kernel
theorem d_Sheet_isMissing_9 : decode zy_Sheet_isMissing.2.1 9 = .ok (.goto (4), 3) := by decide +kernel
theorem d_Sheet_isMissing_12 : decode zy_Sheet_isMissing.2.1 12 = .ok (.iconst 0, 1) := by decide +kernel
theorem d_Sheet_isMissing_13 : decode zy_Sheet_isMissing.2.1 13 = .ok (.ireturn, 1) := by decide +kernel
theorem d_Text_init_0 : decode zy_Text_init.2.1 0 = .ok (.aload_n 0, 1) := by decide +kernel
theorem d_Text_init_1 : decode zy_Text_init.2.1 1 = .ok (.invokespecial 3, 3) := by decide +kernel
theorem d_Text_init_4 : decode zy_Text_init.2.1 4 = .ok (.aload_n 0, 1) := by decide +kernel
theorem d_Text_init_5 : decode zy_Text_init.2.1 5 = .ok (.sipush 160, 3) := by decide +kernel
theorem d_Text_init_8 : decode zy_Text_init.2.1 8 = .ok (.newarray .int, 2) := by decide +kernel
theorem d_Text_init_10 : decode zy_Text_init.2.1 10 = .ok (.putfield 9, 3) := by decide +kernel
theorem d_Text_init_13 : decode zy_Text_init.2.1 13 = .ok (.aload_n 0, 1) := by decide +kernel
theorem d_Text_init_14 : decode zy_Text_init.2.1 14 = .ok (.iconst 0, 1) := by decide +kernel
theorem d_Text_init_15 : decode zy_Text_init.2.1 15 = .ok (.putfield 15, 3) := by decide +kernel
theorem d_Text_init_18 : decode zy_Text_init.2.1 18 = .ok (.aload_n 0, 1) := by decide +kernel
theorem d_Text_init_19 : decode zy_Text_init.2.1 19 = .ok (.iconst 3, 1) := by decide +kernel
theorem d_Text_init_20 : decode zy_Text_init.2.1 20 = .ok (.newarray .int, 2) := by decide +kernel
theorem d_Text_init_22 : decode zy_Text_init.2.1 22 = .ok (.putfield 19, 3) := by decide +kernel
theorem d_Text_init_25 : decode zy_Text_init.2.1 25 = .ok (.aload_n 0, 1) := by decide +kernel
theorem d_Text_init_26 : decode zy_Text_init.2.1 26 = .ok (.bipush 40, 2) := by decide +kernel
theorem d_Text_init_28 : decode zy_Text_init.2.1 28 = .ok (.newarray .int, 2) := by decide +kernel
theorem d_Text_init_30 : decode zy_Text_init.2.1 30 = .ok (.putfield 22, 3) := by decide +kernel
theorem d_Text_init_33 : decode zy_Text_init.2.1 33 = .ok (.return_, 1) := by decide +kernel
theorem d_Text_add_0 : decode zy_Text_add.2.1 0 = .ok (.aload_n 0, 1) := by decide +kernel
theorem d_Text_add_1 : decode zy_Text_add.2.1 1 = .ok (.getfield 15, 3) := by decide +kernel
theorem d_Text_add_4 : decode zy_Text_add.2.1 4 = .ok (.aload_n 0, 1) := by decide +kernel
theorem d_Text_add_5 : decode zy_Text_add.2.1 5 = .ok (.getfield 9, 3) := by decide +kernel
theorem d_Text_add_8 : decode zy_Text_add.2.1 8 = .ok (.arraylength, 1) := by decide +kernel
theorem d_Text_add_9 : decode zy_Text_add.2.1 9 = .ok (.if_icmp .ge (23), 3) := by decide +kernel
theorem d_Text_add_12 : decode zy_Text_add.2.1 12 = .ok (.aload_n 0, 1) := by decide +kernel
theorem d_Text_add_13 : decode zy_Text_add.2.1 13 = .ok (.getfield 9, 3) := by decide +kernel
theorem d_Text_add_16 : decode zy_Text_add.2.1 16 = .ok (.aload_n 0, 1) := by decide +kernel
theorem d_Text_add_17 : decode zy_Text_add.2.1 17 = .ok (.getfield 15, 3) := by decide +kernel
theorem d_Text_add_20 : decode zy_Text_add.2.1 20 = .ok (.iload_n 1, 1) := by decide +kernel
theorem d_Text_add_21 : decode zy_Text_add.2.1 21 = .ok (.iastore, 1) := by decide +kernel
theorem d_Text_add_22 : decode zy_Text_add.2.1 22 = .ok (.aload_n 0, 1) := by decide +kernel
theorem d_Text_add_23 : decode zy_Text_add.2.1 23 = .ok (.dup, 1) := by decide +kernel
theorem d_Text_add_24 : decode zy_Text_add.2.1 24 = .ok (.getfield 15, 3) := by decide +kernel
theorem d_Text_add_27 : decode zy_Text_add.2.1 27 = .ok (.iconst 1, 1) := by decide +kernel
theorem d_Text_add_28 : decode zy_Text_add.2.1 28 = .ok (.iadd, 1) := by decide +kernel
theorem d_Text_add_29 : decode zy_Text_add.2.1 29 = .ok (.putfield 15, 3) := by decide +kernel
theorem d_Text_add_32 : decode zy_Text_add.2.1 32 = .ok (.return_, 1) := by decide +kernel
theorem d_Text_clear_0 : decode zy_Text_clear.2.1 0 = .ok (.aload_n 0, 1) := by decide +kernel
theorem d_Text_clear_1 : decode zy_Text_clear.2.1 1 = .ok (.iconst 0, 1) := by decide +kernel
theorem d_Text_clear_2 : decode zy_Text_clear.2.1 2 = .ok (.putfield 15, 3) := by decide +kernel
theorem d_Text_clear_5 : decode zy_Text_clear.2.1 5 = .ok (.return_, 1) := by decide +kernel
theorem d_Text_endPart_0 : decode zy_Text_endPart.2.1 0 = .ok (.iload_n 1, 1) := by decide +kernel
theorem d_Text_endPart_1 : decode zy_Text_endPart.2.1 1 = .ok (.ifCond .lt (18), 3) := by decide +kernel
theorem d_Text_endPart_4 : decode zy_Text_endPart.2.1 4 = .ok (.iload_n 1, 1) := by decide +kernel
theorem d_Text_endPart_5 : decode zy_Text_endPart.2.1 5 = .ok (.iconst 3, 1) := by decide +kernel
theorem d_Text_endPart_6 : decode zy_Text_endPart.2.1 6 = .ok (.if_icmp .ge (13), 3) := by decide +kernel
theorem d_Text_endPart_9 : decode zy_Text_endPart.2.1 9 = .ok (.aload_n 0, 1) := by decide +kernel
theorem d_Text_endPart_10 : decode zy_Text_endPart.2.1 10 = .ok (.getfield 19, 3) := by decide +kernel
theorem d_Text_endPart_13 : decode zy_Text_endPart.2.1 13 = .ok (.iload_n 1, 1) := by decide +kernel
theorem d_Text_endPart_14 : decode zy_Text_endPart.2.1 14 = .ok (.aload_n 0, 1) := by decide +kernel
theorem d_Text_endPart_15 : decode zy_Text_endPart.2.1 15 = .ok (.getfield 15, 3) := by decide +kernel
theorem d_Text_endPart_18 : decode zy_Text_endPart.2.1 18 = .ok (.iastore, 1) := by decide +kernel
theorem d_Text_endPart_19 : decode zy_Text_endPart.2.1 19 = .ok (.return_, 1) := by decide +kernel
theorem d_Text_joined_0 : decode zy_Text_joined.2.1 0 = .ok (.iload_n 0, 1) := by decide +kernel
theorem d_Text_joined_1 : decode zy_Text_joined.2.1 1 = .ok (.tableswitch (97) (20002) (20007) #[39, 53, 67, 78, 89, 93], 39) := by decide +kernel
theorem d_Text_joined_40 : decode zy_Text_joined.2.1 40 = .ok (.iload_n 1, 1) := by decide +kernel
theorem d_Text_joined_41 : decode zy_Text_joined.2.1 41 = .ok (.ifCond .ne (7), 3) := by decide +kernel
theorem d_Text_joined_44 : decode zy_Text_joined.2.1 44 = .ok (.iload_n 2, 1) := by decide +kernel
theorem d_Text_joined_45 : decode zy_Text_joined.2.1 45 = .ok (.ifCond .eq (7), 3) := by decide +kernel
theorem d_Text_joined_48 : decode zy_Text_joined.2.1 48 = .ok (.iconst 1, 1) := by decide +kernel
theorem d_Text_joined_49 : decode zy_Text_joined.2.1 49 = .ok (.goto (4), 3) := by decide +kernel
theorem d_Text_joined_52 : decode zy_Text_joined.2.1 52 = .ok (.iconst 0, 1) := by decide +kernel
theorem d_Text_joined_53 : decode zy_Text_joined.2.1 53 = .ok (.ireturn, 1) := by decide +kernel
theorem d_Text_joined_54 : decode zy_Text_joined.2.1 54 = .ok (.iload_n 1, 1) := by decide +kernel
theorem d_Text_joined_55 : decode zy_Text_joined.2.1 55 = .ok (.ifCond .eq (11), 3) := by decide +kernel
theorem d_Text_joined_58 : decode zy_Text_joined.2.1 58 = .ok (.iload_n 2, 1) := by decide +kernel
theorem d_Text_joined_59 : decode zy_Text_joined.2.1 59 = .ok (.ifCond .eq (7), 3) := by decide +kernel
theorem d_Text_joined_62 : decode zy_Text_joined.2.1 62 = .ok (.iconst 1, 1) := by decide +kernel
theorem d_Text_joined_63 : decode zy_Text_joined.2.1 63 = .ok (.goto (4), 3) := by decide +kernel
theorem d_Text_joined_66 : decode zy_Text_joined.2.1 66 = .ok (.iconst 0, 1) := by decide +kernel
theorem d_Text_joined_67 : decode zy_Text_joined.2.1 67 = .ok (.ireturn, 1) := by decide +kernel
theorem d_Text_joined_68 : decode zy_Text_joined.2.1 68 = .ok (.iload_n 1, 1) := by decide +kernel
theorem d_Text_joined_69 : decode zy_Text_joined.2.1 69 = .ok (.iload_n 2, 1) := by decide +kernel
theorem d_Text_joined_70 : decode zy_Text_joined.2.1 70 = .ok (.if_icmp .ge (7), 3) := by decide +kernel
theorem d_Text_joined_73 : decode zy_Text_joined.2.1 73 = .ok (.iconst 1, 1) := by decide +kernel
theorem d_Text_joined_74 : decode zy_Text_joined.2.1 74 = .ok (.goto (4), 3) := by decide +kernel
theorem d_Text_joined_77 : decode zy_Text_joined.2.1 77 = .ok (.iconst 0, 1) := by decide +kernel
theorem d_Text_joined_78 : decode zy_Text_joined.2.1 78 = .ok (.ireturn, 1) := by decide +kernel
theorem d_Text_joined_79 : decode zy_Text_joined.2.1 79 = .ok (.iload_n 1, 1) := by decide +kernel
theorem d_Text_joined_80 : decode zy_Text_joined.2.1 80 = .ok (.iload_n 2, 1) := by decide +kernel
theorem d_Text_joined_81 : decode zy_Text_joined.2.1 81 = .ok (.if_icmp .ne (7), 3) := by decide +kernel
theorem d_Text_joined_84 : decode zy_Text_joined.2.1 84 = .ok (.iconst 1, 1) := by decide +kernel
theorem d_Text_joined_85 : decode zy_Text_joined.2.1 85 = .ok (.goto (4), 3) := by decide +kernel
theorem d_Text_joined_88 : decode zy_Text_joined.2.1 88 = .ok (.iconst 0, 1) := by decide +kernel
theorem d_Text_joined_89 : decode zy_Text_joined.2.1 89 = .ok (.ireturn, 1) := by decide +kernel
theorem d_Text_joined_90 : decode zy_Text_joined.2.1 90 = .ok (.iload_n 1, 1) := by decide +kernel
theorem d_Text_joined_91 : decode zy_Text_joined.2.1 91 = .ok (.iload_n 2, 1) := by decide +kernel
theorem d_Text_joined_92 : decode zy_Text_joined.2.1 92 = .ok (.iadd, 1) := by decide +kernel
theorem d_Text_joined_93 : decode zy_Text_joined.2.1 93 = .ok (.ireturn, 1) := by decide +kernel
theorem d_Text_joined_94 : decode zy_Text_joined.2.1 94 = .ok (.iload_n 1, 1) := by decide +kernel
theorem d_Text_joined_95 : decode zy_Text_joined.2.1 95 = .ok (.iload_n 2, 1) := by decide +kernel
theorem d_Text_joined_96 : decode zy_Text_joined.2.1 96 = .ok (.isub, 1) := by decide +kernel
theorem d_Text_joined_97 : decode zy_Text_joined.2.1 97 = .ok (.ireturn, 1) := by decide +kernel
theorem d_Text_joined_98 : decode zy_Text_joined.2.1 98 = .ok (.iload_n 1, 1) := by decide +kernel
theorem d_Text_joined_99 : decode zy_Text_joined.2.1 99 = .ok (.iload_n 2, 1) := by decide +kernel
theorem d_Text_joined_100 : decode zy_Text_joined.2.1 100 = .ok (.imul, 1) := by decide +kernel
theorem d_Text_joined_101 : decode zy_Text_joined.2.1 101 = .ok (.ireturn, 1) := by decide +kernel
theorem d_Text_pushed_0 : decode zy_Text_pushed.2.1 0 = .ok (.iload_n 0, 1) := by decide +kernel
theorem d_Text_pushed_1 : decode zy_Text_pushed.2.1 1 = .ok (.sipush 10000, 3) := by decide +kernel
theorem d_Text_pushed_4 : decode zy_Text_pushed.2.1 4 = .ok (.isub, 1) := by decide +kernel
theorem d_Text_pushed_5 : decode zy_Text_pushed.2.1 5 = .ok (.istore_n 2, 1) := by decide +kernel
theorem d_Text_pushed_6 : decode zy_Text_pushed.2.1 6 = .ok (.iload_n 2, 1) := by decide +kernel
theorem d_Text_pushed_7 : decode zy_Text_pushed.2.1 7 = .ok (.ifCond .lt (15), 3) := by decide +kernel
theorem d_Text_pushed_10 : decode zy_Text_pushed.2.1 10 = .ok (.iload_n 2, 1) := by decide +kernel
theorem d_Text_pushed_11 : decode zy_Text_pushed.2.1 11 = .ok (.aload_n 1, 1) := by decide +kernel
theorem d_Text_pushed_12 : decode zy_Text_pushed.2.1 12 = .ok (.arraylength, 1) := by decide +kernel
theorem d_Text_pushed_13 : decode zy_Text_pushed.2.1 13 = .ok (.if_icmp .ge (9), 3) := by decide +kernel
theorem d_Text_pushed_16 : decode zy_Text_pushed.2.1 16 = .ok (.aload_n 1, 1) := by decide +kernel
theorem d_Text_pushed_17 : decode zy_Text_pushed.2.1 17 = .ok (.iload_n 2, 1) := by decide +kernel
theorem d_Text_pushed_18 : decode zy_Text_pushed.2.1 18 = .ok (.iaload, 1) := by decide +kernel
theorem d_Text_pushed_19 : decode zy_Text_pushed.2.1 19 = .ok (.goto (4), 3) := by decide +kernel
theorem d_Text_pushed_22 : decode zy_Text_pushed.2.1 22 = .ok (.iload_n 0, 1) := by decide +kernel
theorem d_Text_pushed_23 : decode zy_Text_pushed.2.1 23 = .ok (.ireturn, 1) := by decide +kernel
theorem d_M_areAway_0 : decode zy_M_areAway.2.1 0 = .ok (.iload_n 1, 1) := by decide +kernel
theorem d_M_areAway_1 : decode zy_M_areAway.2.1 1 = .ok (.ifCond .lt (16), 3) := by decide +kernel
theorem d_M_areAway_4 : decode zy_M_areAway.2.1 4 = .ok (.iload_n 1, 1) := by decide +kernel
theorem d_M_areAway_5 : decode zy_M_areAway.2.1 5 = .ok (.aload_n 0, 1) := by decide +kernel
theorem d_M_areAway_6 : decode zy_M_areAway.2.1 6 = .ok (.getfield 113, 3) := by decide +kernel
theorem d_M_areAway_9 : decode zy_M_areAway.2.1 9 = .ok (.ishr, 1) := by decide +kernel
theorem d_M_areAway_10 : decode zy_M_areAway.2.1 10 = .ok (.ifCond .ne (7), 3) := by decide +kernel
theorem d_M_areAway_13 : decode zy_M_areAway.2.1 13 = .ok (.iconst 1, 1) := by decide +kernel
theorem d_M_areAway_14 : decode zy_M_areAway.2.1 14 = .ok (.goto (4), 3) := by decide +kernel
theorem d_M_areAway_17 : decode zy_M_areAway.2.1 17 = .ok (.iconst 0, 1) := by decide +kernel
theorem d_M_areAway_18 : decode zy_M_areAway.2.1 18 = .ok (.ireturn, 1) := by decide +kernel
theorem d_M_back_0 : decode zy_M_back.2.1 0 = .ok (.aload_n 0, 1) := by decide +kernel
theorem d_M_back_1 : decode zy_M_back.2.1 1 = .ok (.getfield 342, 3) := by decide +kernel
theorem d_M_back_4 : decode zy_M_back.2.1 4 = .ok (.ifCond .ne (6), 3) := by decide +kernel
theorem d_M_back_7 : decode zy_M_back.2.1 7 = .ok (.bipush (-3), 2) := by decide +kernel
theorem d_M_back_9 : decode zy_M_back.2.1 9 = .ok (.ireturn, 1) := by decide +kernel
theorem d_M_back_10 : decode zy_M_back.2.1 10 = .ok (.aload_n 0, 1) := by decide +kernel
theorem d_M_back_11 : decode zy_M_back.2.1 11 = .ok (.aload_n 0, 1) := by decide +kernel
theorem d_M_back_12 : decode zy_M_back.2.1 12 = .ok (.getfield 348, 3) := by decide +kernel
theorem d_M_back_15 : decode zy_M_back.2.1 15 = .ok (.putfield 130, 3) := by decide +kernel
theorem d_M_back_18 : decode zy_M_back.2.1 18 = .ok (.aload_n 0, 1) := by decide +kernel
theorem d_M_back_19 : decode zy_M_back.2.1 19 = .ok (.aload_n 0, 1) := by decide +kernel
theorem d_M_back_20 : decode zy_M_back.2.1 20 = .ok (.getfield 351, 3) := by decide +kernel
theorem d_M_back_23 : decode zy_M_back.2.1 23 = .ok (.putfield 253, 3) := by decide +kernel
theorem d_M_back_26 : decode zy_M_back.2.1 26 = .ok (.iconst 0, 1) := by decide +kernel
theorem d_M_back_27 : decode zy_M_back.2.1 27 = .ok (.istore_n 1, 1) := by decide +kernel
theorem d_M_back_28 : decode zy_M_back.2.1 28 = .ok (.iload_n 1, 1) := by decide +kernel
theorem d_M_back_29 : decode zy_M_back.2.1 29 = .ok (.bipush 6, 2) := by decide +kernel
theorem d_M_back_31 : decode zy_M_back.2.1 31 = .ok (.aload_n 0, 1) := by decide +kernel
theorem d_M_back_32 : decode zy_M_back.2.1 32 = .ok (.getfield 345, 3) := by decide +kernel
theorem d_M_back_35 : decode zy_M_back.2.1 35 = .ok (.imul, 1) := by decide +kernel
theorem d_M_back_36 : decode zy_M_back.2.1 36 = .ok (.if_icmp .ge (45), 3) := by decide +kernel
theorem d_M_back_39 : decode zy_M_back.2.1 39 = .ok (.aload_n 0, 1) := by decide +kernel
theorem d_M_back_40 : decode zy_M_back.2.1 40 = .ok (.getfield 36, 3) := by decide +kernel
theorem d_M_back_43 : decode zy_M_back.2.1 43 = .ok (.iload_n 1, 1) := by decide +kernel
theorem d_M_back_44 : decode zy_M_back.2.1 44 = .ok (.aload_n 0, 1) := by decide +kernel
theorem d_M_back_45 : decode zy_M_back.2.1 45 = .ok (.getfield 79, 3) := by decide +kernel
theorem d_M_back_48 : decode zy_M_back.2.1 48 = .ok (.iload_n 1, 1) := by decide +kernel
theorem d_M_back_49 : decode zy_M_back.2.1 49 = .ok (.iaload, 1) := by decide +kernel
theorem d_M_back_50 : decode zy_M_back.2.1 50 = .ok (.iastore, 1) := by decide +kernel
theorem d_M_back_51 : decode zy_M_back.2.1 51 = .ok (.aload_n 0, 1) := by decide +kernel
theorem d_M_back_52 : decode zy_M_back.2.1 52 = .ok (.getfield 39, 3) := by decide +kernel
theorem d_M_back_55 : decode zy_M_back.2.1 55 = .ok (.iload_n 1, 1) := by decide +kernel
theorem d_M_back_56 : decode zy_M_back.2.1 56 = .ok (.aload_n 0, 1) := by decide +kernel
theorem d_M_back_57 : decode zy_M_back.2.1 57 = .ok (.getfield 82, 3) := by decide +kernel
theorem d_M_back_60 : decode zy_M_back.2.1 60 = .ok (.iload_n 1, 1) := by decide +kernel
theorem d_M_back_61 : decode zy_M_back.2.1 61 = .ok (.baload, 1) := by decide +kernel
theorem d_M_back_62 : decode zy_M_back.2.1 62 = .ok (.bastore, 1) := by decide +kernel
theorem d_M_back_63 : decode zy_M_back.2.1 63 = .ok (.aload_n 0, 1) := by decide +kernel
theorem d_M_back_64 : decode zy_M_back.2.1 64 = .ok (.getfield 42, 3) := by decide +kernel
theorem d_M_back_67 : decode zy_M_back.2.1 67 = .ok (.iload_n 1, 1) := by decide +kernel
theorem d_M_back_68 : decode zy_M_back.2.1 68 = .ok (.aload_n 0, 1) := by decide +kernel
theorem d_M_back_69 : decode zy_M_back.2.1 69 = .ok (.getfield 85, 3) := by decide +kernel
theorem d_M_back_72 : decode zy_M_back.2.1 72 = .ok (.iload_n 1, 1) := by decide +kernel
theorem d_M_back_73 : decode zy_M_back.2.1 73 = .ok (.baload, 1) := by decide +kernel
theorem d_M_back_74 : decode zy_M_back.2.1 74 = .ok (.bastore, 1) := by decide +kernel
theorem d_M_back_75 : decode zy_M_back.2.1 75 = .ok (.iinc 1 1, 3) := by decide +kernel
theorem d_M_back_78 : decode zy_M_back.2.1 78 = .ok (.goto (-50), 3) := by decide +kernel
theorem d_M_back_81 : decode zy_M_back.2.1 81 = .ok (.iconst 0, 1) := by decide +kernel
theorem d_M_back_82 : decode zy_M_back.2.1 82 = .ok (.istore_n 1, 1) := by decide +kernel
theorem d_M_back_83 : decode zy_M_back.2.1 83 = .ok (.iload_n 1, 1) := by decide +kernel
theorem d_M_back_84 : decode zy_M_back.2.1 84 = .ok (.aload_n 0, 1) := by decide +kernel
theorem d_M_back_85 : decode zy_M_back.2.1 85 = .ok (.getfield 345, 3) := by decide +kernel
theorem d_M_back_88 : decode zy_M_back.2.1 88 = .ok (.if_icmp .ge (21), 3) := by decide +kernel
theorem d_M_back_91 : decode zy_M_back.2.1 91 = .ok (.aload_n 0, 1) := by decide +kernel
theorem d_M_back_92 : decode zy_M_back.2.1 92 = .ok (.getfield 33, 3) := by decide +kernel
theorem d_M_back_95 : decode zy_M_back.2.1 95 = .ok (.iload_n 1, 1) := by decide +kernel
theorem d_M_back_96 : decode zy_M_back.2.1 96 = .ok (.aload_n 0, 1) := by decide +kernel
theorem d_M_back_97 : decode zy_M_back.2.1 97 = .ok (.getfield 88, 3) := by decide +kernel
theorem d_M_back_100 : decode zy_M_back.2.1 100 = .ok (.iload_n 1, 1) := by decide +kernel
theorem d_M_back_101 : decode zy_M_back.2.1 101 = .ok (.iaload, 1) := by decide +kernel
theorem d_M_back_102 : decode zy_M_back.2.1 102 = .ok (.iastore, 1) := by decide +kernel
theorem d_M_back_103 : decode zy_M_back.2.1 103 = .ok (.iinc 1 1, 3) := by decide +kernel
theorem d_M_back_106 : decode zy_M_back.2.1 106 = .ok (.goto (-23), 3) := by decide +kernel
theorem d_M_back_109 : decode zy_M_back.2.1 109 = .ok (.aload_n 0, 1) := by decide +kernel
theorem d_M_back_110 : decode zy_M_back.2.1 110 = .ok (.getfield 130, 3) := by decide +kernel
theorem d_M_back_113 : decode zy_M_back.2.1 113 = .ok (.ireturn, 1) := by decide +kernel
theorem d_M_bitsOf_0 : decode zy_M_bitsOf.2.1 0 = .ok (.iconst 0, 1) := by decide +kernel
theorem d_M_bitsOf_1 : decode zy_M_bitsOf.2.1 1 = .ok (.istore_n 1, 1) := by decide +kernel
theorem d_M_bitsOf_2 : decode zy_M_bitsOf.2.1 2 = .ok (.iload_n 0, 1) := by decide +kernel
theorem d_M_bitsOf_3 : decode zy_M_bitsOf.2.1 3 = .ok (.istore_n 2, 1) := by decide +kernel
theorem d_M_bitsOf_4 : decode zy_M_bitsOf.2.1 4 = .ok (.iload_n 2, 1) := by decide +kernel
theorem d_M_bitsOf_5 : decode zy_M_bitsOf.2.1 5 = .ok (.ifCond .eq (15), 3) := by decide +kernel
theorem d_M_bitsOf_8 : decode zy_M_bitsOf.2.1 8 = .ok (.iinc 1 1, 3) := by decide +kernel
theorem d_M_bitsOf_11 : decode zy_M_bitsOf.2.1 11 = .ok (.iload_n 2, 1) := by decide +kernel
theorem d_M_bitsOf_12 : decode zy_M_bitsOf.2.1 12 = .ok (.iload_n 2, 1) := by decide +kernel
theorem d_M_bitsOf_13 : decode zy_M_bitsOf.2.1 13 = .ok (.iconst 1, 1) := by decide +kernel
theorem d_M_bitsOf_14 : decode zy_M_bitsOf.2.1 14 = .ok (.isub, 1) := by decide +kernel
theorem d_M_bitsOf_15 : decode zy_M_bitsOf.2.1 15 = .ok (.iand, 1) := by decide +kernel
theorem d_M_bitsOf_16 : decode zy_M_bitsOf.2.1 16 = .ok (.istore_n 2, 1) := by decide +kernel
theorem d_M_bitsOf_17 : decode zy_M_bitsOf.2.1 17 = .ok (.goto (-13), 3) := by decide +kernel
theorem d_M_bitsOf_20 : decode zy_M_bitsOf.2.1 20 = .ok (.iload_n 1, 1) := by decide +kernel
theorem d_M_bitsOf_21 : decode zy_M_bitsOf.2.1 21 = .ok (.ireturn, 1) := by decide +kernel
theorem d_M_byteAt_0 : decode zy_M_byteAt.2.1 0 = .ok (.iload_n 1, 1) := by decide +kernel
theorem d_M_byteAt_1 : decode zy_M_byteAt.2.1 1 = .ok (.aload_n 0, 1) := by decide +kernel
theorem d_M_byteAt_2 : decode zy_M_byteAt.2.1 2 = .ok (.getfield 161, 3) := by decide +kernel
theorem d_M_byteAt_5 : decode zy_M_byteAt.2.1 5 = .ok (.if_icmp .ge (12), 3) := by decide +kernel
theorem d_M_byteAt_8 : decode zy_M_byteAt.2.1 8 = .ok (.aload_n 0, 1) := by decide +kernel
theorem d_M_byteAt_9 : decode zy_M_byteAt.2.1 9 = .ok (.getfield 45, 3) := by decide +kernel
theorem d_M_byteAt_12 : decode zy_M_byteAt.2.1 12 = .ok (.iload_n 1, 1) := by decide +kernel
theorem d_M_byteAt_13 : decode zy_M_byteAt.2.1 13 = .ok (.iaload, 1) := by decide +kernel
theorem d_M_byteAt_14 : decode zy_M_byteAt.2.1 14 = .ok (.goto (4), 3) := by decide +kernel
theorem d_M_byteAt_17 : decode zy_M_byteAt.2.1 17 = .ok (.iconst (-1), 1) := by decide +kernel
theorem d_M_byteAt_18 : decode zy_M_byteAt.2.1 18 = .ok (.ireturn, 1) := by decide +kernel
theorem d_M_even_0 : decode zy_M_even.2.1 0 = .ok (.iconst (-1), 1) := by decide +kernel
theorem d_M_even_1 : decode zy_M_even.2.1 1 = .ok (.istore_n 1, 1) := by decide +kernel
theorem d_M_even_2 : decode zy_M_even.2.1 2 = .ok (.iconst 0, 1) := by decide +kernel
theorem d_M_even_3 : decode zy_M_even.2.1 3 = .ok (.istore_n 2, 1) := by decide +kernel
theorem d_M_even_4 : decode zy_M_even.2.1 4 = .ok (.iconst 0, 1) := by decide +kernel
theorem d_M_even_5 : decode zy_M_even.2.1 5 = .ok (.istore_n 3, 1) := by decide +kernel
theorem d_M_even_6 : decode zy_M_even.2.1 6 = .ok (.iload_n 3, 1) := by decide +kernel
theorem d_M_even_7 : decode zy_M_even.2.1 7 = .ok (.aload_n 0, 1) := by decide +kernel
theorem d_M_even_8 : decode zy_M_even.2.1 8 = .ok (.getfield 113, 3) := by decide +kernel
theorem d_M_even_11 : decode zy_M_even.2.1 11 = .ok (.if_icmp .ge (55), 3) := by decide +kernel
theorem d_M_even_14 : decode zy_M_even.2.1 14 = .ok (.iload_n 1, 1) := by decide +kernel
theorem d_M_even_15 : decode zy_M_even.2.1 15 = .ok (.ifCond .lt (13), 3) := by decide +kernel
theorem d_M_even_18 : decode zy_M_even.2.1 18 = .ok (.aload_n 0, 1) := by decide +kernel
theorem d_M_even_19 : decode zy_M_even.2.1 19 = .ok (.getfield 33, 3) := by decide +kernel
theorem d_M_even_22 : decode zy_M_even.2.1 22 = .ok (.iload_n 3, 1) := by decide +kernel
theorem d_M_even_23 : decode zy_M_even.2.1 23 = .ok (.iaload, 1) := by decide +kernel
theorem d_M_even_24 : decode zy_M_even.2.1 24 = .ok (.iload_n 1, 1) := by decide +kernel
theorem d_M_even_25 : decode zy_M_even.2.1 25 = .ok (.if_icmp .ge (12), 3) := by decide +kernel
theorem d_M_even_28 : decode zy_M_even.2.1 28 = .ok (.aload_n 0, 1) := by decide +kernel
theorem d_M_even_29 : decode zy_M_even.2.1 29 = .ok (.getfield 33, 3) := by decide +kernel
theorem d_M_even_32 : decode zy_M_even.2.1 32 = .ok (.iload_n 3, 1) := by decide +kernel
theorem d_M_even_33 : decode zy_M_even.2.1 33 = .ok (.iaload, 1) := by decide +kernel
theorem d_M_even_34 : decode zy_M_even.2.1 34 = .ok (.goto (4), 3) := by decide +kernel
theorem d_M_even_37 : decode zy_M_even.2.1 37 = .ok (.iload_n 1, 1) := by decide +kernel
theorem d_M_even_38 : decode zy_M_even.2.1 38 = .ok (.istore_n 1, 1) := by decide +kernel
theorem d_M_even_39 : decode zy_M_even.2.1 39 = .ok (.aload_n 0, 1) := by decide +kernel
theorem d_M_even_40 : decode zy_M_even.2.1 40 = .ok (.getfield 33, 3) := by decide +kernel
theorem d_M_even_43 : decode zy_M_even.2.1 43 = .ok (.iload_n 3, 1) := by decide +kernel
theorem d_M_even_44 : decode zy_M_even.2.1 44 = .ok (.iaload, 1) := by decide +kernel
theorem d_M_even_45 : decode zy_M_even.2.1 45 = .ok (.iload_n 2, 1) := by decide +kernel
theorem d_M_even_46 : decode zy_M_even.2.1 46 = .ok (.if_icmp .le (12), 3) := by decide +kernel
theorem d_M_even_49 : decode zy_M_even.2.1 49 = .ok (.aload_n 0, 1) := by decide +kernel
theorem d_M_even_50 : decode zy_M_even.2.1 50 = .ok (.getfield 33, 3) := by decide +kernel
theorem d_M_even_53 : decode zy_M_even.2.1 53 = .ok (.iload_n 3, 1) := by decide +kernel
theorem d_M_even_54 : decode zy_M_even.2.1 54 = .ok (.iaload, 1) := by decide +kernel
theorem d_M_even_55 : decode zy_M_even.2.1 55 = .ok (.goto (4), 3) := by decide +kernel
theorem d_M_even_58 : decode zy_M_even.2.1 58 = .ok (.iload_n 2, 1) := by decide +kernel
theorem d_M_even_59 : decode zy_M_even.2.1 59 = .ok (.istore_n 2, 1) := by decide +kernel
theorem d_M_even_60 : decode zy_M_even.2.1 60 = .ok (.iinc 3 1, 3) := by decide +kernel
theorem d_M_even_63 : decode zy_M_even.2.1 63 = .ok (.goto (-57), 3) := by decide +kernel
theorem d_M_even_66 : decode zy_M_even.2.1 66 = .ok (.iload_n 1, 1) := by decide +kernel
theorem d_M_even_67 : decode zy_M_even.2.1 67 = .ok (.ifCond .ge (7), 3) := by decide +kernel
theorem d_M_even_70 : decode zy_M_even.2.1 70 = .ok (.iconst (-1), 1) := by decide +kernel
theorem d_M_even_71 : decode zy_M_even.2.1 71 = .ok (.goto (6), 3) := by decide +kernel
theorem d_M_even_74 : decode zy_M_even.2.1 74 = .ok (.iload_n 2, 1) := by decide +kernel
theorem d_M_even_75 : decode zy_M_even.2.1 75 = .ok (.iload_n 1, 1) := by decide +kernel
theorem d_M_even_76 : decode zy_M_even.2.1 76 = .ok (.isub, 1) := by decide +kernel
theorem d_M_even_77 : decode zy_M_even.2.1 77 = .ok (.ireturn, 1) := by decide +kernel
theorem d_M_fills_0 : decode zy_M_fills.2.1 0 = .ok (.iload_n 1, 1) := by decide +kernel
theorem d_M_fills_1 : decode zy_M_fills.2.1 1 = .ok (.aload_n 0, 1) := by decide +kernel
theorem d_M_fills_2 : decode zy_M_fills.2.1 2 = .ok (.getfield 106, 3) := by decide +kernel
theorem d_M_fills_5 : decode zy_M_fills.2.1 5 = .ok (.if_icmp .ne (57), 3) := by decide +kernel
theorem d_M_fills_8 : decode zy_M_fills.2.1 8 = .ok (.aload_n 0, 1) := by decide +kernel
theorem d_M_fills_9 : decode zy_M_fills.2.1 9 = .ok (.getfield 266, 3) := by decide +kernel
theorem d_M_fills_12 : decode zy_M_fills.2.1 12 = .ok (.ifCond .eq (48), 3) := by decide +kernel
theorem d_M_fills_15 : decode zy_M_fills.2.1 15 = .ok (.iload_n 3, 1) := by decide +kernel
theorem d_M_fills_16 : decode zy_M_fills.2.1 16 = .ok (.aload_n 0, 1) := by decide +kernel
theorem d_M_fills_17 : decode zy_M_fills.2.1 17 = .ok (.getfield 269, 3) := by decide +kernel
theorem d_M_fills_20 : decode zy_M_fills.2.1 20 = .ok (.if_icmp .le (40), 3) := by decide +kernel
theorem d_M_fills_23 : decode zy_M_fills.2.1 23 = .ok (.aload_n 0, 1) := by decide +kernel
theorem d_M_fills_24 : decode zy_M_fills.2.1 24 = .ok (.iload_n 3, 1) := by decide +kernel
theorem d_M_fills_25 : decode zy_M_fills.2.1 25 = .ok (.putfield 269, 3) := by decide +kernel
theorem d_M_fills_28 : decode zy_M_fills.2.1 28 = .ok (.iconst 0, 1) := by decide +kernel
theorem d_M_fills_29 : decode zy_M_fills.2.1 29 = .ok (.istore 4, 2) := by decide +kernel
theorem d_M_fills_31 : decode zy_M_fills.2.1 31 = .ok (.iload 4, 2) := by decide +kernel
theorem d_M_fills_33 : decode zy_M_fills.2.1 33 = .ok (.aload_n 0, 1) := by decide +kernel
theorem d_M_fills_34 : decode zy_M_fills.2.1 34 = .ok (.getfield 106, 3) := by decide +kernel
theorem d_M_fills_37 : decode zy_M_fills.2.1 37 = .ok (.if_icmp .ge (23), 3) := by decide +kernel
theorem d_M_fills_40 : decode zy_M_fills.2.1 40 = .ok (.aload_n 0, 1) := by decide +kernel
theorem d_M_fills_41 : decode zy_M_fills.2.1 41 = .ok (.getfield 76, 3) := by decide +kernel
theorem d_M_fills_44 : decode zy_M_fills.2.1 44 = .ok (.iload 4, 2) := by decide +kernel
theorem d_M_fills_46 : decode zy_M_fills.2.1 46 = .ok (.aload_n 0, 1) := by decide +kernel
theorem d_M_fills_47 : decode zy_M_fills.2.1 47 = .ok (.getfield 73, 3) := by decide +kernel
theorem d_M_fills_50 : decode zy_M_fills.2.1 50 = .ok (.iload 4, 2) := by decide +kernel
theorem d_M_fills_52 : decode zy_M_fills.2.1 52 = .ok (.iaload, 1) := by decide +kernel
theorem d_M_fills_53 : decode zy_M_fills.2.1 53 = .ok (.iastore, 1) := by decide +kernel
theorem d_M_fills_54 : decode zy_M_fills.2.1 54 = .ok (.iinc 4 1, 3) := by decide +kernel
theorem d_M_fills_57 : decode zy_M_fills.2.1 57 = .ok (.goto (-26), 3) := by decide +kernel
theorem d_M_fills_60 : decode zy_M_fills.2.1 60 = .ok (.iconst 1, 1) := by decide +kernel
theorem d_M_fills_61 : decode zy_M_fills.2.1 61 = .ok (.ireturn, 1) := by decide +kernel
theorem d_M_fills_62 : decode zy_M_fills.2.1 62 = .ok (.iconst 0, 1) := by decide +kernel
theorem d_M_fills_63 : decode zy_M_fills.2.1 63 = .ok (.istore 4, 2) := by decide +kernel
theorem d_M_fills_65 : decode zy_M_fills.2.1 65 = .ok (.aload_n 0, 1) := by decide +kernel
theorem d_M_fills_66 : decode zy_M_fills.2.1 66 = .ok (.getfield 13, 3) := by decide +kernel
theorem d_M_fills_69 : decode zy_M_fills.2.1 69 = .ok (.iload_n 1, 1) := by decide +kernel
theorem d_M_fills_70 : decode zy_M_fills.2.1 70 = .ok (.baload, 1) := by decide +kernel
theorem d_M_fills_71 : decode zy_M_fills.2.1 71 = .ok (.ifCond .eq (7), 3) := by decide +kernel
theorem d_M_fills_74 : decode zy_M_fills.2.1 74 = .ok (.iconst 0, 1) := by decide +kernel
theorem d_M_fills_75 : decode zy_M_fills.2.1 75 = .ok (.goto (4), 3) := by decide +kernel
theorem d_M_fills_78 : decode zy_M_fills.2.1 78 = .ok (.iconst (-1), 1) := by decide +kernel
theorem d_M_fills_79 : decode zy_M_fills.2.1 79 = .ok (.istore 5, 2) := by decide +kernel
theorem d_M_fills_81 : decode zy_M_fills.2.1 81 = .ok (.iload 5, 2) := by decide +kernel
theorem d_M_fills_83 : decode zy_M_fills.2.1 83 = .ok (.aload_n 0, 1) := by decide +kernel
theorem d_M_fills_84 : decode zy_M_fills.2.1 84 = .ok (.getfield 113, 3) := by decide +kernel
theorem d_M_fills_87 : decode zy_M_fills.2.1 87 = .ok (.if_icmp .ge (127), 3) := by decide +kernel
theorem d_M_fills_90 : decode zy_M_fills.2.1 90 = .ok (.iload 5, 2) := by decide +kernel
theorem d_M_fills_92 : decode zy_M_fills.2.1 92 = .ok (.ifCond .lt (30), 3) := by decide +kernel
theorem d_M_fills_95 : decode zy_M_fills.2.1 95 = .ok (.iload_n 2, 1) := by decide +kernel
theorem d_M_fills_96 : decode zy_M_fills.2.1 96 = .ok (.iload 5, 2) := by decide +kernel
theorem d_M_fills_98 : decode zy_M_fills.2.1 98 = .ok (.ishr, 1) := by decide +kernel
theorem d_M_fills_99 : decode zy_M_fills.2.1 99 = .ok (.iconst 1, 1) := by decide +kernel
theorem d_M_fills_100 : decode zy_M_fills.2.1 100 = .ok (.iand, 1) := by decide +kernel
theorem d_M_fills_101 : decode zy_M_fills.2.1 101 = .ok (.iconst 1, 1) := by decide +kernel
theorem d_M_fills_102 : decode zy_M_fills.2.1 102 = .ok (.if_icmp .eq (106), 3) := by decide +kernel
theorem d_M_fills_105 : decode zy_M_fills.2.1 105 = .ok (.aload_n 0, 1) := by decide +kernel
theorem d_M_fills_106 : decode zy_M_fills.2.1 106 = .ok (.getfield 67, 3) := by decide +kernel
theorem d_M_fills_109 : decode zy_M_fills.2.1 109 = .ok (.iload 5, 2) := by decide +kernel
theorem d_M_fills_111 : decode zy_M_fills.2.1 111 = .ok (.iaload, 1) := by decide +kernel
theorem d_M_fills_112 : decode zy_M_fills.2.1 112 = .ok (.iload_n 1, 1) := by decide +kernel
theorem d_M_fills_113 : decode zy_M_fills.2.1 113 = .ok (.ishr, 1) := by decide +kernel
theorem d_M_fills_114 : decode zy_M_fills.2.1 114 = .ok (.iconst 1, 1) := by decide +kernel
theorem d_M_fills_115 : decode zy_M_fills.2.1 115 = .ok (.iand, 1) := by decide +kernel
theorem d_M_fills_116 : decode zy_M_fills.2.1 116 = .ok (.ifCond .ne (6), 3) := by decide +kernel
theorem d_M_fills_119 : decode zy_M_fills.2.1 119 = .ok (.goto (89), 3) := by decide +kernel
theorem d_M_fills_122 : decode zy_M_fills.2.1 122 = .ok (.aload_n 0, 1) := by decide +kernel
theorem d_M_fills_123 : decode zy_M_fills.2.1 123 = .ok (.getfield 73, 3) := by decide +kernel
theorem d_M_fills_126 : decode zy_M_fills.2.1 126 = .ok (.iload_n 1, 1) := by decide +kernel
theorem d_M_fills_127 : decode zy_M_fills.2.1 127 = .ok (.iload 5, 2) := by decide +kernel
theorem d_M_fills_129 : decode zy_M_fills.2.1 129 = .ok (.iastore, 1) := by decide +kernel
theorem d_M_fills_130 : decode zy_M_fills.2.1 130 = .ok (.aload_n 0, 1) := by decide +kernel
theorem d_M_fills_131 : decode zy_M_fills.2.1 131 = .ok (.iload_n 1, 1) := by decide +kernel
theorem d_M_fills_132 : decode zy_M_fills.2.1 132 = .ok (.iconst 1, 1) := by decide +kernel
theorem d_M_fills_133 : decode zy_M_fills.2.1 133 = .ok (.iadd, 1) := by decide +kernel
theorem d_M_fills_134 : decode zy_M_fills.2.1 134 = .ok (.iload 5, 2) := by decide +kernel
theorem d_M_fills_136 : decode zy_M_fills.2.1 136 = .ok (.ifCond .ge (7), 3) := by decide +kernel
theorem d_M_fills_139 : decode zy_M_fills.2.1 139 = .ok (.iload_n 2, 1) := by decide +kernel
theorem d_M_fills_140 : decode zy_M_fills.2.1 140 = .ok (.goto (9), 3) := by decide +kernel
theorem d_M_fills_143 : decode zy_M_fills.2.1 143 = .ok (.iload_n 2, 1) := by decide +kernel
theorem d_M_fills_144 : decode zy_M_fills.2.1 144 = .ok (.iconst 1, 1) := by decide +kernel
theorem d_M_fills_145 : decode zy_M_fills.2.1 145 = .ok (.iload 5, 2) := by decide +kernel
theorem d_M_fills_147 : decode zy_M_fills.2.1 147 = .ok (.ishl, 1) := by decide +kernel
theorem d_M_fills_148 : decode zy_M_fills.2.1 148 = .ok (.ior, 1) := by decide +kernel
theorem d_M_fills_149 : decode zy_M_fills.2.1 149 = .ok (.iload 5, 2) := by decide +kernel
theorem d_M_fills_151 : decode zy_M_fills.2.1 151 = .ok (.ifCond .ge (7), 3) := by decide +kernel
theorem d_M_fills_154 : decode zy_M_fills.2.1 154 = .ok (.iload_n 3, 1) := by decide +kernel
theorem d_M_fills_155 : decode zy_M_fills.2.1 155 = .ok (.goto (17), 3) := by decide +kernel
theorem d_M_fills_158 : decode zy_M_fills.2.1 158 = .ok (.iload_n 3, 1) := by decide +kernel
theorem d_M_fills_159 : decode zy_M_fills.2.1 159 = .ok (.aload_n 0, 1) := by decide +kernel
theorem d_M_fills_160 : decode zy_M_fills.2.1 160 = .ok (.getfield 70, 3) := by decide +kernel
theorem d_M_fills_163 : decode zy_M_fills.2.1 163 = .ok (.bipush 6, 2) := by decide +kernel
theorem d_M_fills_165 : decode zy_M_fills.2.1 165 = .ok (.iload 5, 2) := by decide +kernel
theorem d_M_fills_167 : decode zy_M_fills.2.1 167 = .ok (.imul, 1) := by decide +kernel
theorem d_M_fills_168 : decode zy_M_fills.2.1 168 = .ok (.iload_n 1, 1) := by decide +kernel
theorem d_M_fills_169 : decode zy_M_fills.2.1 169 = .ok (.iadd, 1) := by decide +kernel
theorem d_M_fills_170 : decode zy_M_fills.2.1 170 = .ok (.iaload, 1) := by decide +kernel
theorem d_M_fills_171 : decode zy_M_fills.2.1 171 = .ok (.iadd, 1) := by decide +kernel
theorem d_M_fills_172 : decode zy_M_fills.2.1 172 = .ok (.invokevirtual 272, 3) := by decide +kernel
theorem d_M_fills_175 : decode zy_M_fills.2.1 175 = .ok (.istore 6, 2) := by decide +kernel
theorem d_M_fills_177 : decode zy_M_fills.2.1 177 = .ok (.iload 4, 2) := by decide +kernel
theorem d_M_fills_179 : decode zy_M_fills.2.1 179 = .ok (.ifCond .ne (8), 3) := by decide +kernel
theorem d_M_fills_182 : decode zy_M_fills.2.1 182 = .ok (.iload 6, 2) := by decide +kernel
theorem d_M_fills_184 : decode zy_M_fills.2.1 184 = .ok (.ifCond .eq (7), 3) := by decide +kernel
theorem d_M_fills_187 : decode zy_M_fills.2.1 187 = .ok (.iconst 1, 1) := by decide +kernel
theorem d_M_fills_188 : decode zy_M_fills.2.1 188 = .ok (.goto (4), 3) := by decide +kernel
theorem d_M_fills_191 : decode zy_M_fills.2.1 191 = .ok (.iconst 0, 1) := by decide +kernel
theorem d_M_fills_192 : decode zy_M_fills.2.1 192 = .ok (.istore 4, 2) := by decide +kernel
theorem d_M_fills_194 : decode zy_M_fills.2.1 194 = .ok (.iload 4, 2) := by decide +kernel
theorem d_M_fills_196 : decode zy_M_fills.2.1 196 = .ok (.ifCond .eq (12), 3) := by decide +kernel
theorem d_M_fills_199 : decode zy_M_fills.2.1 199 = .ok (.aload_n 0, 1) := by decide +kernel
theorem d_M_fills_200 : decode zy_M_fills.2.1 200 = .ok (.getfield 266, 3) := by decide +kernel
theorem d_M_fills_203 : decode zy_M_fills.2.1 203 = .ok (.ifCond .ne (5), 3) := by decide +kernel
theorem d_M_fills_206 : decode zy_M_fills.2.1 206 = .ok (.iconst 1, 1) := by decide +kernel
theorem d_M_fills_207 : decode zy_M_fills.2.1 207 = .ok (.ireturn, 1) := by decide +kernel
theorem d_M_fills_208 : decode zy_M_fills.2.1 208 = .ok (.iinc 5 1, 3) := by decide +kernel
theorem d_M_fills_211 : decode zy_M_fills.2.1 211 = .ok (.goto (-130), 3) := by decide +kernel
theorem d_M_fills_214 : decode zy_M_fills.2.1 214 = .ok (.iload 4, 2) := by decide +kernel
theorem d_M_fills_216 : decode zy_M_fills.2.1 216 = .ok (.ireturn, 1) := by decide +kernel
theorem d_M_held_0 : decode zy_M_held.2.1 0 = .ok (.iload_n 0, 1) := by decide +kernel
theorem d_M_held_1 : decode zy_M_held.2.1 1 = .ok (.iload_n 1, 1) := by decide +kernel
theorem d_M_held_2 : decode zy_M_held.2.1 2 = .ok (.if_icmp .ge (7), 3) := by decide +kernel
theorem d_M_held_5 : decode zy_M_held.2.1 5 = .ok (.iload_n 1, 1) := by decide +kernel
theorem d_M_held_6 : decode zy_M_held.2.1 6 = .ok (.goto (13), 3) := by decide +kernel
theorem d_M_held_9 : decode zy_M_held.2.1 9 = .ok (.iload_n 0, 1) := by decide +kernel
theorem d_M_held_10 : decode zy_M_held.2.1 10 = .ok (.iload_n 2, 1) := by decide +kernel
theorem d_M_held_11 : decode zy_M_held.2.1 11 = .ok (.if_icmp .le (7), 3) := by decide +kernel
theorem d_M_held_14 : decode zy_M_held.2.1 14 = .ok (.iload_n 2, 1) := by decide +kernel
theorem d_M_held_15 : decode zy_M_held.2.1 15 = .ok (.goto (4), 3) := by decide +kernel
theorem d_M_held_18 : decode zy_M_held.2.1 18 = .ok (.iload_n 0, 1) := by decide +kernel
theorem d_M_held_19 : decode zy_M_held.2.1 19 = .ok (.ireturn, 1) := by decide +kernel
theorem d_M_image_0 : decode zy_M_image.2.1 0 = .ok (.aload_n 0, 1) := by decide +kernel
theorem d_M_image_1 : decode zy_M_image.2.1 1 = .ok (.iconst 1, 1) := by decide +kernel
theorem d_M_image_2 : decode zy_M_image.2.1 2 = .ok (.putfield 342, 3) := by decide +kernel
theorem d_M_image_5 : decode zy_M_image.2.1 5 = .ok (.aload_n 0, 1) := by decide +kernel
theorem d_M_image_6 : decode zy_M_image.2.1 6 = .ok (.aload_n 0, 1) := by decide +kernel
theorem d_M_image_7 : decode zy_M_image.2.1 7 = .ok (.getfield 113, 3) := by decide +kernel
theorem d_M_image_10 : decode zy_M_image.2.1 10 = .ok (.putfield 345, 3) := by decide +kernel
theorem d_M_image_13 : decode zy_M_image.2.1 13 = .ok (.aload_n 0, 1) := by decide +kernel
theorem d_M_image_14 : decode zy_M_image.2.1 14 = .ok (.aload_n 0, 1) := by decide +kernel
theorem d_M_image_15 : decode zy_M_image.2.1 15 = .ok (.getfield 130, 3) := by decide +kernel
theorem d_M_image_18 : decode zy_M_image.2.1 18 = .ok (.putfield 348, 3) := by decide +kernel
theorem d_M_image_21 : decode zy_M_image.2.1 21 = .ok (.aload_n 0, 1) := by decide +kernel
theorem d_M_image_22 : decode zy_M_image.2.1 22 = .ok (.aload_n 0, 1) := by decide +kernel
theorem d_M_image_23 : decode zy_M_image.2.1 23 = .ok (.getfield 253, 3) := by decide +kernel
theorem d_M_image_26 : decode zy_M_image.2.1 26 = .ok (.putfield 351, 3) := by decide +kernel
theorem d_M_image_29 : decode zy_M_image.2.1 29 = .ok (.iconst 0, 1) := by decide +kernel
theorem d_M_image_30 : decode zy_M_image.2.1 30 = .ok (.istore_n 1, 1) := by decide +kernel
theorem d_M_image_31 : decode zy_M_image.2.1 31 = .ok (.iload_n 1, 1) := by decide +kernel
theorem d_M_image_32 : decode zy_M_image.2.1 32 = .ok (.bipush 42, 2) := by decide +kernel
theorem d_M_image_34 : decode zy_M_image.2.1 34 = .ok (.if_icmp .ge (45), 3) := by decide +kernel
theorem d_M_image_37 : decode zy_M_image.2.1 37 = .ok (.aload_n 0, 1) := by decide +kernel
theorem d_M_image_38 : decode zy_M_image.2.1 38 = .ok (.getfield 79, 3) := by decide +kernel
theorem d_M_image_41 : decode zy_M_image.2.1 41 = .ok (.iload_n 1, 1) := by decide +kernel
theorem d_M_image_42 : decode zy_M_image.2.1 42 = .ok (.aload_n 0, 1) := by decide +kernel
theorem d_M_image_43 : decode zy_M_image.2.1 43 = .ok (.getfield 36, 3) := by decide +kernel
theorem d_M_image_46 : decode zy_M_image.2.1 46 = .ok (.iload_n 1, 1) := by decide +kernel
theorem d_M_image_47 : decode zy_M_image.2.1 47 = .ok (.iaload, 1) := by decide +kernel
theorem d_M_image_48 : decode zy_M_image.2.1 48 = .ok (.iastore, 1) := by decide +kernel
theorem d_M_image_49 : decode zy_M_image.2.1 49 = .ok (.aload_n 0, 1) := by decide +kernel
theorem d_M_image_50 : decode zy_M_image.2.1 50 = .ok (.getfield 82, 3) := by decide +kernel
theorem d_M_image_53 : decode zy_M_image.2.1 53 = .ok (.iload_n 1, 1) := by decide +kernel
theorem d_M_image_54 : decode zy_M_image.2.1 54 = .ok (.aload_n 0, 1) := by decide +kernel
theorem d_M_image_55 : decode zy_M_image.2.1 55 = .ok (.getfield 39, 3) := by decide +kernel
theorem d_M_image_58 : decode zy_M_image.2.1 58 = .ok (.iload_n 1, 1) := by decide +kernel
theorem d_M_image_59 : decode zy_M_image.2.1 59 = .ok (.baload, 1) := by decide +kernel
theorem d_M_image_60 : decode zy_M_image.2.1 60 = .ok (.bastore, 1) := by decide +kernel
theorem d_M_image_61 : decode zy_M_image.2.1 61 = .ok (.aload_n 0, 1) := by decide +kernel
theorem d_M_image_62 : decode zy_M_image.2.1 62 = .ok (.getfield 85, 3) := by decide +kernel
theorem d_M_image_65 : decode zy_M_image.2.1 65 = .ok (.iload_n 1, 1) := by decide +kernel
theorem d_M_image_66 : decode zy_M_image.2.1 66 = .ok (.aload_n 0, 1) := by decide +kernel
theorem d_M_image_67 : decode zy_M_image.2.1 67 = .ok (.getfield 42, 3) := by decide +kernel
theorem d_M_image_70 : decode zy_M_image.2.1 70 = .ok (.iload_n 1, 1) := by decide +kernel
theorem d_M_image_71 : decode zy_M_image.2.1 71 = .ok (.baload, 1) := by decide +kernel
theorem d_M_image_72 : decode zy_M_image.2.1 72 = .ok (.bastore, 1) := by decide +kernel
theorem d_M_image_73 : decode zy_M_image.2.1 73 = .ok (.iinc 1 1, 3) := by decide +kernel
theorem d_M_image_76 : decode zy_M_image.2.1 76 = .ok (.goto (-45), 3) := by decide +kernel
theorem d_M_image_79 : decode zy_M_image.2.1 79 = .ok (.iconst 0, 1) := by decide +kernel
theorem d_M_image_80 : decode zy_M_image.2.1 80 = .ok (.istore_n 1, 1) := by decide +kernel
theorem d_M_image_81 : decode zy_M_image.2.1 81 = .ok (.iload_n 1, 1) := by decide +kernel
theorem d_M_image_82 : decode zy_M_image.2.1 82 = .ok (.bipush 7, 2) := by decide +kernel
theorem d_M_image_84 : decode zy_M_image.2.1 84 = .ok (.if_icmp .ge (21), 3) := by decide +kernel
theorem d_M_image_87 : decode zy_M_image.2.1 87 = .ok (.aload_n 0, 1) := by decide +kernel
theorem d_M_image_88 : decode zy_M_image.2.1 88 = .ok (.getfield 88, 3) := by decide +kernel
theorem d_M_image_91 : decode zy_M_image.2.1 91 = .ok (.iload_n 1, 1) := by decide +kernel
theorem d_M_image_92 : decode zy_M_image.2.1 92 = .ok (.aload_n 0, 1) := by decide +kernel
theorem d_M_image_93 : decode zy_M_image.2.1 93 = .ok (.getfield 33, 3) := by decide +kernel
theorem d_M_image_96 : decode zy_M_image.2.1 96 = .ok (.iload_n 1, 1) := by decide +kernel
theorem d_M_image_97 : decode zy_M_image.2.1 97 = .ok (.iaload, 1) := by decide +kernel
theorem d_M_image_98 : decode zy_M_image.2.1 98 = .ok (.iastore, 1) := by decide +kernel
theorem d_M_image_99 : decode zy_M_image.2.1 99 = .ok (.iinc 1 1, 3) := by decide +kernel
theorem d_M_image_102 : decode zy_M_image.2.1 102 = .ok (.goto (-21), 3) := by decide +kernel
theorem d_M_image_105 : decode zy_M_image.2.1 105 = .ok (.aload_n 0, 1) := by decide +kernel
theorem d_M_image_106 : decode zy_M_image.2.1 106 = .ok (.getfield 130, 3) := by decide +kernel
theorem d_M_image_109 : decode zy_M_image.2.1 109 = .ok (.ireturn, 1) := by decide +kernel
theorem d_M_in_0 : decode zy_M_in.2.1 0 = .ok (.lload_n 0, 1) := by decide +kernel
