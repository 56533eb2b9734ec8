abbrev zy_L_law : zY := (x, code, 4, some .boolean)
theorem cn_L_7 : Cond.classLink "PostsFilledLaw" 7 "PostsFilled" ∈ gtbl := zin 93 (by decide +kernel) (by decide +kernel)
theorem in_8 : Cond.instantiable "PostsFilled" 16 ∈ gtbl := zin 94 (by decide +kernel) (by decide +kernel)
theorem ii_8 : Cond.initialized "PostsFilled" ∈ gtbl := zin 75 (by decide +kernel) (by decide +kernel)
theorem zm_I_X_init : zIni zy_X_init 0 := ⟨⟨zin 97 rfl rfl, zin 75 (by decide +kernel) (by decide +kernel), by decide, by decide, by decide +kernel, by decide⟩, zin 96 (by decide +kernel) (by decide +kernel), rfl⟩
theorem ml_L_9 : Cond.methodLink "PostsFilledLaw" 9 zy_X_init.1 ∈ gtbl := zin 95 (by decide +kernel) (by decide +kernel)
theorem cn_L_10 : Cond.classLink "PostsFilledLaw" 10 "PostsFilledModel" ∈ gtbl := zin 904 (by decide +kernel) (by decide +kernel)
theorem in_9 : Cond.instantiable "PostsFilledModel" 53 ∈ gtbl := zin 905 (by decide +kernel) (by decide +kernel)
theorem ii_9 : Cond.initialized "PostsFilledModel" ∈ gtbl := zin 89 (by decide +kernel) (by decide +kernel)
set_option maxRecDepth 100000 in
theorem zm_I_M_init : zIni zy_M_init 0 := ⟨⟨zin 908 rfl rfl, zin 89 (by decide +kernel) (by decide +kernel), by decide, by decide, by decide +kernel, by decide⟩, zin 907 (by decide +kernel) (by decide +kernel), rfl⟩
theorem ml_L_12 : Cond.methodLink "PostsFilledLaw" 12 zy_M_init.1 ∈ gtbl := zin 906 (by decide +kernel) (by decide +kernel)
theorem zm_V_X_post : zVir zy_X_post 2 := ⟨⟨zin 510 (by decide +kernel) (by decide +kernel), zin 75 (by decide +kernel) (by decide +kernel), by decide, by decide, by decide +kernel, by decide⟩, zin 508 (by decide +kernel) (by decide +kernel), zin 509 (by decide +kernel) (by decide +kernel)⟩
theorem ml_L_13 : Cond.methodLink "PostsFilledLaw" 13 zy_X_post.1 ∈ gtbl := zin 507 (by decide +kernel) (by decide +kernel)
theorem zm_V_M_post : zVir zy_M_post 2 := ⟨⟨zin 1074 (by decide +kernel) (by decide +kernel), zin 89 (by decide +kernel) (by decide +kernel), by decide, by decide, by decide +kernel, by decide⟩, zin 1072 (by decide +kernel) (by decide +kernel), zin 1073 (by decide +kernel) (by decide +kernel)⟩
theorem ml_L_17 : Cond.methodLink "PostsFilledLaw" 17 zy_M_post.1 ∈ gtbl := zin 1071 (by decide +kernel) (by decide +kernel)
theorem zm_V_X_person : zVir zy_X_person 2 := ⟨⟨zin 521 (by decide +kernel) (by decide +kernel), zin 75 (by decide +kernel) (by decide +kernel), by decide, by decide, by decide +kernel, by decide⟩, zin 519 (by decide +kernel) (by decide +kernel), zin 520 (by decide +kernel) (by decide +kernel)⟩
theorem ml_L_18 : Cond.methodLink "PostsFilledLaw" 18 zy_X_person.1 ∈ gtbl := zin 518 (by decide +kernel) (by decide +kernel)
theorem ml_L_21 : Cond.methodLink "PostsFilledLaw" 21 zy_M_person.1 ∈ gtbl := zin 1079 (by decide +kernel) (by decide +kernel)
theorem zm_V_X_years : zVir zy_X_years 1 := ⟨⟨zin 537 (by decide +kernel) (by decide +kernel), zin 75 (by decide +kernel) (by decide +kernel), by decide, by decide, by decide +kernel, by decide⟩, zin 535 (by decide +kernel) (by decide +kernel), zin 536 (by decide +kernel) (by decide +kernel)⟩
theorem ml_L_22 : Cond.methodLink "PostsFilledLaw" 22 zy_X_years.1 ∈ gtbl := zin 534 (by decide +kernel) (by decide +kernel)
theorem zm_V_M_years : zVir zy_M_years 1 := ⟨⟨zin 1095 (by decide +kernel) (by decide +kernel), zin 89 (by decide +kernel) (by decide +kernel), by decide, by decide, by decide +kernel, by decide⟩, zin 1093 (by decide +kernel) (by decide +kernel), zin 1094 (by decide +kernel) (by decide +kernel)⟩
theorem ml_L_26 : Cond.methodLink "PostsFilledLaw" 26 zy_M_years.1 ∈ gtbl := zin 1092 (by decide +kernel) (by decide +kernel)
theorem zm_V_X_teach : zVir zy_X_teach 2 := ⟨⟨zin 541 (by decide +kernel) (by decide +kernel), zin 75 (by decide +kernel) (by decide +kernel), by decide, by decide, by decide +kernel, by decide⟩, zin 539 (by decide +kernel) (by decide +kernel), zin 540 (by decide +kernel) (by decide +kernel)⟩
theorem ml_L_27 : Cond.methodLink "PostsFilledLaw" 27 zy_X_teach.1 ∈ gtbl := zin 538 (by decide +kernel) (by decide +kernel)
theorem zm_V_M_teach : zVir zy_M_teach 2 := ⟨⟨zin 1100 (by decide +kernel) (by decide +kernel), zin 89 (by decide +kernel) (by decide +kernel), by decide, by decide, by decide +kernel, by decide⟩, zin 1098 (by decide +kernel) (by decide +kernel), zin 1099 (by decide +kernel) (by decide +kernel)⟩
theorem ml_L_30 : Cond.methodLink "PostsFilledLaw" 30 zy_M_teach.1 ∈ gtbl := zin 1097 (by decide +kernel) (by decide +kernel)
theorem zm_V_X_bar : zVir zy_X_bar 3 := ⟨⟨zin 557 (by decide +kernel) (by decide +kernel), zin 75 (by decide +kernel) (by decide +kernel), by decide, by decide, by decide +kernel, by decide⟩, zin 555 (by decide +kernel) (by decide +kernel), zin 556 (by decide +kernel) (by decide +kernel)⟩
theorem ml_L_31 : Cond.methodLink "PostsFilledLaw" 31 zy_X_bar.1 ∈ gtbl := zin 554 (by decide +kernel) (by decide +kernel)
theorem zm_V_M_bar : zVir zy_M_bar 3 := ⟨⟨zin 1112 (by decide +kernel) (by decide +kernel), zin 89 (by decide +kernel) (by decide +kernel), by decide, by decide, by decide +kernel, by decide⟩, zin 1110 (by decide +kernel) (by decide +kernel), zin 1111 (by decide +kernel) (by decide +kernel)⟩
theorem ml_L_35 : Cond.methodLink "PostsFilledLaw" 35 zy_M_bar.1 ∈ gtbl := zin 1109 (by decide +kernel) (by decide +kernel)
theorem zm_V_X_told : zVir zy_X_told 3 := ⟨⟨zin 565 (by decide +kernel) (by decide +kernel), zin 75 (by decide +kernel) (by decide +kernel), by decide, by decide, by decide +kernel, by decide⟩, zin 563 (by decide +kernel) (by decide +kernel), zin 564 (by decide +kernel) (by decide +kernel)⟩
theorem ml_L_36 : Cond.methodLink "PostsFilledLaw" 36 zy_X_told.1 ∈ gtbl := zin 562 (by decide +kernel) (by decide +kernel)
theorem zm_V_M_told : zVir zy_M_told 3 := ⟨⟨zin 1116 (by decide +kernel) (by decide +kernel), zin 89 (by decide +kernel) (by decide +kernel), by decide, by decide, by decide +kernel, by decide⟩, zin 1114 (by decide +kernel) (by decide +kernel), zin 1115 (by decide +kernel) (by decide +kernel)⟩
theorem ml_L_39 : Cond.methodLink "PostsFilledLaw" 39 zy_M_told.1 ∈ gtbl := zin 1113 (by decide +kernel) (by decide +kernel)
theorem cl_L_40 : Cond.constantLong "PostsFilledLaw" 40 4294967295 ∈ gtbl := zin 1385 (by decide +kernel) (by decide +kernel)
theorem zm_V_X_feed : zVir zy_X_feed 2 := ⟨⟨zin 642 (by decide +kernel) (by decide +kernel), zin 75 (by decide +kernel) (by decide +kernel), by decide, by decide, by decide +kernel, by decide⟩, zin 640 (by decide +kernel) (by decide +kernel), zin 641 (by decide +kernel) (by decide +kernel)⟩
theorem ml_L_42 : Cond.methodLink "PostsFilledLaw" 42 zy_X_feed.1 ∈ gtbl := zin 639 (by decide +kernel) (by decide +kernel)
theorem zm_V_M_feed : zVir zy_M_feed 2 := ⟨⟨zin 1154 (by decide +kernel) (by decide +kernel), zin 89 (by decide +kernel) (by decide +kernel), by decide, by decide, by decide +kernel, by decide⟩, zin 1152 (by decide +kernel) (by decide +kernel), zin 1153 (by decide +kernel) (by decide +kernel)⟩
theorem ml_L_46 : Cond.methodLink "PostsFilledLaw" 46 zy_M_feed.1 ∈ gtbl := zin 1151 (by decide +kernel) (by decide +kernel)
theorem zm_V_X_text : zVir zy_X_text 0 := ⟨⟨zin 646 (by decide +kernel) (by decide +kernel), zin 75 (by decide +kernel) (by decide +kernel), by decide, by decide, by decide +kernel, by decide⟩, zin 644 (by decide +kernel) (by decide +kernel), zin 645 (by decide +kernel) (by decide +kernel)⟩
theorem ml_L_47 : Cond.methodLink "PostsFilledLaw" 47 zy_X_text.1 ∈ gtbl := zin 643 (by decide +kernel) (by decide +kernel)
theorem zm_V_M_text : zVir zy_M_text 0 := ⟨⟨zin 1160 (by decide +kernel) (by decide +kernel), zin 89 (by decide +kernel) (by decide +kernel), by decide, by decide, by decide +kernel, by decide⟩, zin 1158 (by decide +kernel) (by decide +kernel), zin 1159 (by decide +kernel) (by decide +kernel)⟩
theorem ml_L_51 : Cond.methodLink "PostsFilledLaw" 51 zy_M_text.1 ∈ gtbl := zin 1157 (by decide +kernel) (by decide +kernel)
theorem zm_V_X_force : zVir zy_X_force 1 := ⟨⟨zin 650 (by decide +kernel) (by decide +kernel), zin 75 (by decide +kernel) (by decide +kernel), by decide, by decide, by decide +kernel, by decide⟩, zin 648 (by decide +kernel) (by decide +kernel), zin 649 (by decide +kernel) (by decide +kernel)⟩
theorem ml_L_52 : Cond.methodLink "PostsFilledLaw" 52 zy_X_force.1 ∈ gtbl := zin 647 (by decide +kernel) (by decide +kernel)
theorem zm_V_M_force : zVir zy_M_force 1 := ⟨⟨zin 1233 (by decide +kernel) (by decide +kernel), zin 89 (by decide +kernel) (by decide +kernel), by decide, by decide, by decide +kernel, by decide⟩, zin 1231 (by decide +kernel) (by decide +kernel), zin 1232 (by decide +kernel) (by decide +kernel)⟩
theorem ml_L_55 : Cond.methodLink "PostsFilledLaw" 55 zy_M_force.1 ∈ gtbl := zin 1230 (by decide +kernel) (by decide +kernel)
theorem zm_V_X_fill : zVir zy_X_fill 2 := ⟨⟨zin 654 (by decide +kernel) (by decide +kernel), zin 75 (by decide +kernel) (by decide +kernel), by decide, by decide, by decide +kernel, by decide⟩, zin 652 (by decide +kernel) (by decide +kernel), zin 653 (by decide +kernel) (by decide +kernel)⟩
theorem ml_L_56 : Cond.methodLink "PostsFilledLaw" 56 zy_X_fill.1 ∈ gtbl := zin 651 (by decide +kernel) (by decide +kernel)
theorem zm_V_M_fill : zVir zy_M_fill 2 := ⟨⟨zin 1237 (by decide +kernel) (by decide +kernel), zin 89 (by decide +kernel) (by decide +kernel), by decide, by decide, by decide +kernel, by decide⟩, zin 1235 (by decide +kernel) (by decide +kernel), zin 1236 (by decide +kernel) (by decide +kernel)⟩
theorem ml_L_59 : Cond.methodLink "PostsFilledLaw" 59 zy_M_fill.1 ∈ gtbl := zin 1234 (by decide +kernel) (by decide +kernel)
theorem zm_V_X_few : zVir zy_X_few 1 := ⟨⟨zin 701 (by decide +kernel) (by decide +kernel), zin 75 (by decide +kernel) (by decide +kernel), by decide, by decide, by decide +kernel, by decide⟩, zin 699 (by decide +kernel) (by decide +kernel), zin 700 (by decide +kernel) (by decide +kernel)⟩
theorem ml_L_60 : Cond.methodLink "PostsFilledLaw" 60 zy_X_few.1 ∈ gtbl := zin 698 (by decide +kernel) (by decide +kernel)
theorem zm_V_M_few : zVir zy_M_few 1 := ⟨⟨zin 1261 (by decide +kernel) (by decide +kernel), zin 89 (by decide +kernel) (by decide +kernel), by decide, by decide, by decide +kernel, by decide⟩, zin 1259 (by decide +kernel) (by decide +kernel), zin 1260 (by decide +kernel) (by decide +kernel)⟩
theorem ml_L_63 : Cond.methodLink "PostsFilledLaw" 63 zy_M_few.1 ∈ gtbl := zin 1258 (by decide +kernel) (by decide +kernel)
theorem zm_V_X_holds : zVir zy_X_holds 1 := ⟨⟨zin 718 (by decide +kernel) (by decide +kernel), zin 75 (by decide +kernel) (by decide +kernel), by decide, by decide, by decide +kernel, by decide⟩, zin 716 (by decide +kernel) (by decide +kernel), zin 717 (by decide +kernel) (by decide +kernel)⟩
theorem ml_L_64 : Cond.methodLink "PostsFilledLaw" 64 zy_X_holds.1 ∈ gtbl := zin 715 (by decide +kernel) (by decide +kernel)
theorem zm_V_M_holds : zVir zy_M_holds 1 := ⟨⟨zin 1268 (by decide +kernel) (by decide +kernel), zin 89 (by decide +kernel) (by decide +kernel), by decide, by decide, by decide +kernel, by decide⟩, zin 1266 (by decide +kernel) (by decide +kernel), zin 1267 (by decide +kernel) (by decide +kernel)⟩
theorem ml_L_67 : Cond.methodLink "PostsFilledLaw" 67 zy_M_holds.1 ∈ gtbl := zin 1265 (by decide +kernel) (by decide +kernel)
theorem zm_V_X_worst : zVir zy_X_worst 2 := ⟨⟨zin 730 (by decide +kernel) (by decide +kernel), zin 75 (by decide +kernel) (by decide +kernel), by decide, by decide, by decide +kernel, by decide⟩, zin 728 (by decide +kernel) (by decide +kernel), zin 729 (by decide +kernel) (by decide +kernel)⟩
theorem ml_L_68 : Cond.methodLink "PostsFilledLaw" 68 zy_X_worst.1 ∈ gtbl := zin 727 (by decide +kernel) (by decide +kernel)
theorem zm_V_M_worst : zVir zy_M_worst 2 := ⟨⟨zin 1281 (by decide +kernel) (by decide +kernel), zin 89 (by decide +kernel) (by decide +kernel), by decide, by decide, by decide +kernel, by decide⟩, zin 1279 (by decide +kernel) (by decide +kernel), zin 1280 (by decide +kernel) (by decide +kernel)⟩
theorem ml_L_71 : Cond.methodLink "PostsFilledLaw" 71 zy_M_worst.1 ∈ gtbl := zin 1278 (by decide +kernel) (by decide +kernel)
theorem zm_V_X_lessons : zVir zy_X_lessons 2 := ⟨⟨zin 743 (by decide +kernel) (by decide +kernel), zin 75 (by decide +kernel) (by decide +kernel), by decide, by decide, by decide +kernel, by decide⟩, zin 741 (by decide +kernel) (by decide +kernel), zin 742 (by decide +kernel) (by decide +kernel)⟩
theorem ml_L_72 : Cond.methodLink "PostsFilledLaw" 72 zy_X_lessons.1 ∈ gtbl := zin 740 (by decide +kernel) (by decide +kernel)
theorem zm_V_M_lessons : zVir zy_M_lessons 2 := ⟨⟨zin 1285 (by decide +kernel) (by decide +kernel), zin 89 (by decide +kernel) (by decide +kernel), by decide, by decide, by decide +kernel, by decide⟩, zin 1283 (by decide +kernel) (by decide +kernel), zin 1284 (by decide +kernel) (by decide +kernel)⟩
theorem ml_L_75 : Cond.methodLink "PostsFilledLaw" 75 zy_M_lessons.1 ∈ gtbl := zin 1282 (by decide +kernel) (by decide +kernel)
theorem zm_V_X_ring : zVir zy_X_ring 0 := ⟨⟨zin 781 (by decide +kernel) (by decide +kernel), zin 75 (by decide +kernel) (by decide +kernel), by decide, by decide, by decide +kernel, by decide⟩, zin 779 (by decide +kernel) (by decide +kernel), zin 780 (by decide +kernel) (by decide +kernel)⟩
theorem ml_L_76 : Cond.methodLink "PostsFilledLaw" 76 zy_X_ring.1 ∈ gtbl := zin 778 (by decide +kernel) (by decide +kernel)
theorem zm_V_M_ring : zVir zy_M_ring 0 := ⟨⟨zin 1310 (by decide +kernel) (by decide +kernel), zin 89 (by decide +kernel) (by decide +kernel), by decide, by decide, by decide +kernel, by decide⟩, zin 1308 (by decide +kernel) (by decide +kernel), zin 1309 (by decide +kernel) (by decide +kernel)⟩
theorem ml_L_79 : Cond.methodLink "PostsFilledLaw" 79 zy_M_ring.1 ∈ gtbl := zin 1307 (by decide +kernel) (by decide +kernel)
theorem zm_V_X_sure : zVir zy_X_sure 1 := ⟨⟨zin 785 (by decide +kernel) (by decide +kernel), zin 75 (by decide +kernel) (by decide +kernel), by decide, by decide, by decide +kernel, by decide⟩, zin 783 (by decide +kernel) (by decide +kernel), zin 784 (by decide +kernel) (by decide +kernel)⟩
theorem ml_L_80 : Cond.methodLink "PostsFilledLaw" 80 zy_X_sure.1 ∈ gtbl := zin 782 (by decide +kernel) (by decide +kernel)
theorem zm_V_M_sure : zVir zy_M_sure 1 := ⟨⟨zin 1314 (by decide +kernel) (by decide +kernel), zin 89 (by decide +kernel) (by decide +kernel), by decide, by decide, by decide +kernel, by decide⟩, zin 1312 (by decide +kernel) (by decide +kernel), zin 1313 (by decide +kernel) (by decide +kernel)⟩
theorem ml_L_84 : Cond.methodLink "PostsFilledLaw" 84 zy_M_sure.1 ∈ gtbl := zin 1311 (by decide +kernel) (by decide +kernel)
theorem zm_V_X_done : zVir zy_X_done 1 := ⟨⟨zin 798 (by decide +kernel) (by decide +kernel), zin 75 (by decide +kernel) (by decide +kernel), by decide, by decide, by decide +kernel, by decide⟩, zin 796 (by decide +kernel) (by decide +kernel), zin 797 (by decide +kernel) (by decide +kernel)⟩
theorem ml_L_85 : Cond.methodLink "PostsFilledLaw" 85 zy_X_done.1 ∈ gtbl := zin 795 (by decide +kernel) (by decide +kernel)
theorem zm_V_M_done : zVir zy_M_done 1 := ⟨⟨zin 1323 (by decide +kernel) (by decide +kernel), zin 89 (by decide +kernel) (by decide +kernel), by decide, by decide, by decide +kernel, by decide⟩, zin 1321 (by decide +kernel) (by decide +kernel), zin 1322 (by decide +kernel) (by decide +kernel)⟩
theorem ml_L_88 : Cond.methodLink "PostsFilledLaw" 88 zy_M_done.1 ∈ gtbl := zin 1320 (by decide +kernel) (by decide +kernel)
theorem zm_V_X_even : zVir zy_X_even 0 := ⟨⟨zin 806 (by decide +kernel) (by decide +kernel), zin 75 (by decide +kernel) (by decide +kernel), by decide, by decide, by decide +kernel, by decide⟩, zin 804 (by decide +kernel) (by decide +kernel), zin 805 (by decide +kernel) (by decide +kernel)⟩
theorem ml_L_89 : Cond.methodLink "PostsFilledLaw" 89 zy_X_even.1 ∈ gtbl := zin 803 (by decide +kernel) (by decide +kernel)
theorem zm_V_M_even : zVir zy_M_even 0 := ⟨⟨zin 1327 (by decide +kernel) (by decide +kernel), zin 89 (by decide +kernel) (by decide +kernel), by decide, by decide, by decide +kernel, by decide⟩, zin 1325 (by decide +kernel) (by decide +kernel), zin 1326 (by decide +kernel) (by decide +kernel)⟩
theorem ml_L_92 : Cond.methodLink "PostsFilledLaw" 92 zy_M_even.1 ∈ gtbl := zin 1324 (by decide +kernel) (by decide +kernel)
theorem zm_V_X_pay : zVir zy_X_pay 1 := ⟨⟨zin 810 (by decide +kernel) (by decide +kernel), zin 75 (by decide +kernel) (by decide +kernel), by decide, by decide, by decide +kernel, by decide⟩, zin 808 (by decide +kernel) (by decide +kernel), zin 809 (by decide +kernel) (by decide +kernel)⟩
theorem ml_L_93 : Cond.methodLink "PostsFilledLaw" 93 zy_X_pay.1 ∈ gtbl := zin 807 (by decide +kernel) (by decide +kernel)
theorem zm_V_M_pay : zVir zy_M_pay 1 := ⟨⟨zin 1331 (by decide +kernel) (by decide +kernel), zin 89 (by decide +kernel) (by decide +kernel), by decide, by decide, by decide +kernel, by decide⟩, zin 1329 (by decide +kernel) (by decide +kernel), zin 1330 (by decide +kernel) (by decide +kernel)⟩
theorem ml_L_96 : Cond.methodLink "PostsFilledLaw" 96 zy_M_pay.1 ∈ gtbl := zin 1328 (by decide +kernel) (by decide +kernel)
theorem zm_V_X_first : zVir zy_X_first 0 := ⟨⟨zin 818 (by decide +kernel) (by decide +kernel), zin 75 (by decide +kernel) (by decide +kernel), by decide, by decide, by decide +kernel, by decide⟩, zin 816 (by decide +kernel) (by decide +kernel), zin 817 (by decide +kernel) (by decide +kernel)⟩
theorem ml_L_97 : Cond.methodLink "PostsFilledLaw" 97 zy_X_first.1 ∈ gtbl := zin 815 (by decide +kernel) (by decide +kernel)
theorem zm_V_M_first : zVir zy_M_first 0 := ⟨⟨zin 1339 (by decide +kernel) (by decide +kernel), zin 89 (by decide +kernel) (by decide +kernel), by decide, by decide, by decide +kernel, by decide⟩, zin 1337 (by decide +kernel) (by decide +kernel), zin 1338 (by decide +kernel) (by decide +kernel)⟩
theorem ml_L_100 : Cond.methodLink "PostsFilledLaw" 100 zy_M_first.1 ∈ gtbl := zin 1336 (by decide +kernel) (by decide +kernel)
theorem zm_V_X_judge : zVir zy_X_judge 2 := ⟨⟨zin 824 (by decide +kernel) (by decide +kernel), zin 75 (by decide +kernel) (by decide +kernel), by decide, by decide, by decide +kernel, by decide⟩, zin 822 (by decide +kernel) (by decide +kernel), zin 823 (by decide +kernel) (by decide +kernel)⟩
theorem ml_L_101 : Cond.methodLink "PostsFilledLaw" 101 zy_X_judge.1 ∈ gtbl := zin 821 (by decide +kernel) (by decide +kernel)
theorem zm_V_M_judge : zVir zy_M_judge 2 := ⟨⟨zin 1343 (by decide +kernel) (by decide +kernel), zin 89 (by decide +kernel) (by decide +kernel), by decide, by decide, by decide +kernel, by decide⟩, zin 1341 (by decide +kernel) (by decide +kernel), zin 1342 (by decide +kernel) (by decide +kernel)⟩
theorem ml_L_104 : Cond.methodLink "PostsFilledLaw" 104 zy_M_judge.1 ∈ gtbl := zin 1340 (by decide +kernel) (by decide +kernel)
theorem zm_V_X_image : zVir zy_X_image 0 := ⟨⟨zin 840 (by decide +kernel) (by decide +kernel), zin 75 (by decide +kernel) (by decide +kernel), by decide, by decide, by decide +kernel, by decide⟩, zin 838 (by decide +kernel) (by decide +kernel), zin 839 (by decide +kernel) (by decide +kernel)⟩
theorem ml_L_105 : Cond.methodLink "PostsFilledLaw" 105 zy_X_image.1 ∈ gtbl := zin 837 (by decide +kernel) (by decide +kernel)
theorem zm_V_M_image : zVir zy_M_image 0 := ⟨⟨zin 1351 (by decide +kernel) (by decide +kernel), zin 89 (by decide +kernel) (by decide +kernel), by decide, by decide, by decide +kernel, by decide⟩, zin 1349 (by decide +kernel) (by decide +kernel), zin 1350 (by decide +kernel) (by decide +kernel)⟩
theorem ml_L_108 : Cond.methodLink "PostsFilledLaw" 108 zy_M_image.1 ∈ gtbl := zin 1348 (by decide +kernel) (by decide +kernel)
theorem zm_V_X_back : zVir zy_X_back 0 := ⟨⟨zin 851 (by decide +kernel) (by decide +kernel), zin 75 (by decide +kernel) (by decide +kernel), by decide, by decide, by decide +kernel, by decide⟩, zin 849 (by decide +kernel) (by decide +kernel), zin 850 (by decide +kernel) (by decide +kernel)⟩
theorem ml_L_109 : Cond.methodLink "PostsFilledLaw" 109 zy_X_back.1 ∈ gtbl := zin 848 (by decide +kernel) (by decide +kernel)
theorem zm_V_M_back : zVir zy_M_back 0 := ⟨⟨zin 1355 (by decide +kernel) (by decide +kernel), zin 89 (by decide +kernel) (by decide +kernel), by decide, by decide, by decide +kernel, by decide⟩, zin 1353 (by decide +kernel) (by decide +kernel), zin 1354 (by decide +kernel) (by decide +kernel)⟩
theorem ml_L_112 : Cond.methodLink "PostsFilledLaw" 112 zy_M_back.1 ∈ gtbl := zin 1352 (by decide +kernel) (by decide +kernel)
theorem zm_V_X_count : zVir zy_X_count 1 := ⟨⟨zin 859 (by decide +kernel) (by decide +kernel), zin 75 (by decide +kernel) (by decide +kernel), by decide, by decide, by decide +kernel, by decide⟩, zin 857 (by decide +kernel) (by decide +kernel), zin 858 (by decide +kernel) (by decide +kernel)⟩
theorem ml_L_113 : Cond.methodLink "PostsFilledLaw" 113 zy_X_count.1 ∈ gtbl := zin 856 (by decide +kernel) (by decide +kernel)
theorem zm_V_M_count : zVir zy_M_count 1 := ⟨⟨zin 1359 (by decide +kernel) (by decide +kernel), zin 89 (by decide +kernel) (by decide +kernel), by decide, by decide, by decide +kernel, by decide⟩, zin 1357 (by decide +kernel) (by decide +kernel), zin 1358 (by decide +kernel) (by decide +kernel)⟩
theorem ml_L_116 : Cond.methodLink "PostsFilledLaw" 116 zy_M_count.1 ∈ gtbl := zin 1356 (by decide +kernel) (by decide +kernel)
theorem zm_V_X_sheet : zVir zy_X_sheet 3 := ⟨⟨zin 867 (by decide +kernel) (by decide +kernel), zin 75 (by decide +kernel) (by decide +kernel), by decide, by decide, by decide +kernel, by decide⟩, zin 865 (by decide +kernel) (by decide +kernel), zin 866 (by decide +kernel) (by decide +kernel)⟩
theorem ml_L_117 : Cond.methodLink "PostsFilledLaw" 117 zy_X_sheet.1 ∈ gtbl := zin 864 (by decide +kernel) (by decide +kernel)
theorem zm_V_M_sheet : zVir zy_M_sheet 3 := ⟨⟨zin 1363 (by decide +kernel) (by decide +kernel), zin 89 (by decide +kernel) (by decide +kernel), by decide, by decide, by decide +kernel, by decide⟩, zin 1361 (by decide +kernel) (by decide +kernel), zin 1362 (by decide +kernel) (by decide +kernel)⟩
theorem ml_L_120 : Cond.methodLink "PostsFilledLaw" 120 zy_M_sheet.1 ∈ gtbl := zin 1360 (by decide +kernel) (by decide +kernel)
theorem zm_V_X_cell : zVir zy_X_cell 3 := ⟨⟨zin 876 (by decide +kernel) (by decide +kernel), zin 75 (by decide +kernel) (by decide +kernel), by decide, by decide, by decide +kernel, by decide⟩, zin 874 (by decide +kernel) (by decide +kernel), zin 875 (by decide +kernel) (by decide +kernel)⟩
theorem ml_L_121 : Cond.methodLink "PostsFilledLaw" 121 zy_X_cell.1 ∈ gtbl := zin 873 (by decide +kernel) (by decide +kernel)
theorem zm_V_M_cell : zVir zy_M_cell 3 := ⟨⟨zin 1368 (by decide +kernel) (by decide +kernel), zin 89 (by decide +kernel) (by decide +kernel), by decide, by decide, by decide +kernel, by decide⟩, zin 1366 (by decide +kernel) (by decide +kernel), zin 1367 (by decide +kernel) (by decide +kernel)⟩
theorem ml_L_124 : Cond.methodLink "PostsFilledLaw" 124 zy_M_cell.1 ∈ gtbl := zin 1365 (by decide +kernel) (by decide +kernel)
theorem zm_V_X_copy : zVir zy_X_copy 5 := ⟨⟨zin 889 (by decide +kernel) (by decide +kernel), zin 75 (by decide +kernel) (by decide +kernel), by decide, by decide, by decide +kernel, by decide⟩, zin 887 (by decide +kernel) (by decide +kernel), zin 888 (by decide +kernel) (by decide +kernel)⟩
theorem ml_L_125 : Cond.methodLink "PostsFilledLaw" 125 zy_X_copy.1 ∈ gtbl := zin 886 (by decide +kernel) (by decide +kernel)
theorem zm_V_M_copy : zVir zy_M_copy 5 := ⟨⟨zin 1372 (by decide +kernel) (by decide +kernel), zin 89 (by decide +kernel) (by decide +kernel), by decide, by decide, by decide +kernel, by decide⟩, zin 1370 (by decide +kernel) (by decide +kernel), zin 1371 (by decide +kernel) (by decide +kernel)⟩
theorem ml_L_129 : Cond.methodLink "PostsFilledLaw" 129 zy_M_copy.1 ∈ gtbl := zin 1369 (by decide +kernel) (by decide +kernel)
theorem zm_V_X_people : zVir zy_X_people 4 := ⟨⟨zin 898 (by decide +kernel) (by decide +kernel), zin 75 (by decide +kernel) (by decide +kernel), by decide, by decide, by decide +kernel, by decide⟩, zin 896 (by decide +kernel) (by decide +kernel), zin 897 (by decide +kernel) (by decide +kernel)⟩
theorem ml_L_130 : Cond.methodLink "PostsFilledLaw" 130 zy_X_people.1 ∈ gtbl := zin 895 (by decide +kernel) (by decide +kernel)
theorem zm_V_M_people : zVir zy_M_people 4 := ⟨⟨zin 1376 (by decide +kernel) (by decide +kernel), zin 89 (by decide +kernel) (by decide +kernel), by decide, by decide, by decide +kernel, by decide⟩, zin 1374 (by decide +kernel) (by decide +kernel), zin 1375 (by decide +kernel) (by decide +kernel)⟩
theorem ml_L_134 : Cond.methodLink "PostsFilledLaw" 134 zy_M_people.1 ∈ gtbl := zin 1373 (by decide +kernel) (by decide +kernel)
theorem zm_V_X_taken : zVir zy_X_taken 2 := ⟨⟨zin 902 (by decide +kernel) (by decide +kernel), zin 75 (by decide +kernel) (by decide +kernel), by decide, by decide, by decide +kernel, by decide⟩, zin 900 (by decide +kernel) (by decide +kernel), zin 901 (by decide +kernel) (by decide +kernel)⟩
theorem ml_L_135 : Cond.methodLink "PostsFilledLaw" 135 zy_X_taken.1 ∈ gtbl := zin 899 (by decide +kernel) (by decide +kernel)
theorem zm_V_M_taken : zVir zy_M_taken 2 := ⟨⟨zin 1381 (by decide +kernel) (by decide +kernel), zin 89 (by decide +kernel) (by decide +kernel), by decide, by decide, by decide +kernel, by decide⟩, zin 1379 (by decide +kernel) (by decide +kernel), zin 1380 (by decide +kernel) (by decide +kernel)⟩
theorem ml_L_138 : Cond.methodLink "PostsFilledLaw" 138 zy_M_taken.1 ∈ gtbl := zin 1378 (by decide +kernel) (by decide +kernel)
theorem d_L_law_0 : decode zy_L_law.2.1 0 = .ok (.new 7, 3) := by decide +kernel
theorem d_L_law_3 : decode zy_L_law.2.1 3 = .ok (.dup, 1) := by decide +kernel
theorem d_L_law_4 : decode zy_L_law.2.1 4 = .ok (.invokespecial 9, 3) := by decide +kernel
theorem d_L_law_7 : decode zy_L_law.2.1 7 = .ok (.astore_n 1, 1) := by decide +kernel
theorem d_L_law_8 : decode zy_L_law.2.1 8 = .ok (.new 10, 3) := by decide +kernel
theorem d_L_law_11 : decode zy_L_law.2.1 11 = .ok (.dup, 1) := by decide +kernel
theorem d_L_law_12 : decode zy_L_law.2.1 12 = .ok (.invokespecial 12, 3) := by decide +kernel
theorem d_L_law_15 : decode zy_L_law.2.1 15 = .ok (.astore_n 2, 1) := by decide +kernel
theorem d_L_law_16 : decode zy_L_law.2.1 16 = .ok (.iconst 0, 1) := by decide +kernel
theorem d_L_law_17 : decode zy_L_law.2.1 17 = .ok (.istore_n 3, 1) := by decide +kernel
theorem d_L_law_18 : decode zy_L_law.2.1 18 = .ok (.iload_n 3, 1) := by decide +kernel
theorem d_L_law_19 : decode zy_L_law.2.1 19 = .ok (.aload_n 0, 1) := by decide +kernel
theorem d_L_law_20 : decode zy_L_law.2.1 20 = .ok (.arraylength, 1) := by decide +kernel
theorem d_L_law_21 : decode zy_L_law.2.1 21 = .ok (.bipush 6, 2) := by decide +kernel
theorem d_L_law_23 : decode zy_L_law.2.1 23 = .ok (.isub, 1) := by decide +kernel
theorem d_L_law_24 : decode zy_L_law.2.1 24 = .ok (.if_icmp .gt (1024), 3) := by decide +kernel
theorem d_L_law_27 : decode zy_L_law.2.1 27 = .ok (.aload_n 0, 1) := by decide +kernel
theorem d_L_law_28 : decode zy_L_law.2.1 28 = .ok (.iload_n 3, 1) := by decide +kernel
theorem d_L_law_29 : decode zy_L_law.2.1 29 = .ok (.iaload, 1) := by decide +kernel
theorem d_L_law_30 : decode zy_L_law.2.1 30 = .ok (.bipush 31, 2) := by decide +kernel
theorem d_L_law_32 : decode zy_L_law.2.1 32 = .ok (.iand, 1) := by decide +kernel
theorem d_L_law_33 : decode zy_L_law.2.1 33 = .ok (.tableswitch (1009) (0) (28) #[131, 164, 197, 220, 253, 296, 339, 402, 415, 438, 471, 494, 517, 550, 583, 596, 620, 643, 656, 679, 692, 725, 738, 751, 774, 817, 860, 923, 976], 131) := by decide +kernel
theorem d_L_law_164 : decode zy_L_law.2.1 164 = .ok (.aload_n 1, 1) := by decide +kernel
theorem d_L_law_165 : decode zy_L_law.2.1 165 = .ok (.aload_n 0, 1) := by decide +kernel
theorem d_L_law_166 : decode zy_L_law.2.1 166 = .ok (.iload_n 3, 1) := by decide +kernel
theorem d_L_law_167 : decode zy_L_law.2.1 167 = .ok (.iconst 1, 1) := by decide +kernel
theorem d_L_law_168 : decode zy_L_law.2.1 168 = .ok (.iadd, 1) := by decide +kernel
theorem d_L_law_169 : decode zy_L_law.2.1 169 = .ok (.iaload, 1) := by decide +kernel
theorem d_L_law_170 : decode zy_L_law.2.1 170 = .ok (.aload_n 0, 1) := by decide +kernel
theorem d_L_law_171 : decode zy_L_law.2.1 171 = .ok (.iload_n 3, 1) := by decide +kernel
theorem d_L_law_172 : decode zy_L_law.2.1 172 = .ok (.iconst 2, 1) := by decide +kernel
theorem d_L_law_173 : decode zy_L_law.2.1 173 = .ok (.iadd, 1) := by decide +kernel
theorem d_L_law_174 : decode zy_L_law.2.1 174 = .ok (.iaload, 1) := by decide +kernel
theorem d_L_law_175 : decode zy_L_law.2.1 175 = .ok (.invokevirtual 13, 3) := by decide +kernel
theorem d_L_law_178 : decode zy_L_law.2.1 178 = .ok (.aload_n 2, 1) := by decide +kernel
theorem d_L_law_179 : decode zy_L_law.2.1 179 = .ok (.aload_n 0, 1) := by decide +kernel
theorem d_L_law_180 : decode zy_L_law.2.1 180 = .ok (.iload_n 3, 1) := by decide +kernel
theorem d_L_law_181 : decode zy_L_law.2.1 181 = .ok (.iconst 1, 1) := by decide +kernel
theorem d_L_law_182 : decode zy_L_law.2.1 182 = .ok (.iadd, 1) := by decide +kernel
theorem d_L_law_183 : decode zy_L_law.2.1 183 = .ok (.iaload, 1) := by decide +kernel
theorem d_L_law_184 : decode zy_L_law.2.1 184 = .ok (.aload_n 0, 1) := by decide +kernel
theorem d_L_law_185 : decode zy_L_law.2.1 185 = .ok (.iload_n 3, 1) := by decide +kernel
theorem d_L_law_186 : decode zy_L_law.2.1 186 = .ok (.iconst 2, 1) := by decide +kernel
theorem d_L_law_187 : decode zy_L_law.2.1 187 = .ok (.iadd, 1) := by decide +kernel
theorem d_L_law_188 : decode zy_L_law.2.1 188 = .ok (.iaload, 1) := by decide +kernel
theorem d_L_law_189 : decode zy_L_law.2.1 189 = .ok (.invokevirtual 17, 3) := by decide +kernel
theorem d_L_law_192 : decode zy_L_law.2.1 192 = .ok (.if_icmp .eq (850), 3) := by decide +kernel
theorem d_L_law_195 : decode zy_L_law.2.1 195 = .ok (.iconst 0, 1) := by decide +kernel
theorem d_L_law_196 : decode zy_L_law.2.1 196 = .ok (.ireturn, 1) := by decide +kernel
theorem d_L_law_197 : decode zy_L_law.2.1 197 = .ok (.aload_n 1, 1) := by decide +kernel
theorem d_L_law_198 : decode zy_L_law.2.1 198 = .ok (.aload_n 0, 1) := by decide +kernel
theorem d_L_law_199 : decode zy_L_law.2.1 199 = .ok (.iload_n 3, 1) := by decide +kernel
theorem d_L_law_200 : decode zy_L_law.2.1 200 = .ok (.iconst 1, 1) := by decide +kernel
theorem d_L_law_201 : decode zy_L_law.2.1 201 = .ok (.iadd, 1) := by decide +kernel
theorem d_L_law_202 : decode zy_L_law.2.1 202 = .ok (.iaload, 1) := by decide +kernel
theorem d_L_law_203 : decode zy_L_law.2.1 203 = .ok (.aload_n 0, 1) := by decide +kernel
theorem d_L_law_204 : decode zy_L_law.2.1 204 = .ok (.iload_n 3, 1) := by decide +kernel
theorem d_L_law_205 : decode zy_L_law.2.1 205 = .ok (.iconst 2, 1) := by decide +kernel
theorem d_L_law_206 : decode zy_L_law.2.1 206 = .ok (.iadd, 1) := by decide +kernel
theorem d_L_law_207 : decode zy_L_law.2.1 207 = .ok (.iaload, 1) := by decide +kernel
theorem d_L_law_208 : decode zy_L_law.2.1 208 = .ok (.invokevirtual 18, 3) := by decide +kernel
theorem d_L_law_211 : decode zy_L_law.2.1 211 = .ok (.aload_n 2, 1) := by decide +kernel
theorem d_L_law_212 : decode zy_L_law.2.1 212 = .ok (.aload_n 0, 1) := by decide +kernel
theorem d_L_law_213 : decode zy_L_law.2.1 213 = .ok (.iload_n 3, 1) := by decide +kernel
theorem d_L_law_214 : decode zy_L_law.2.1 214 = .ok (.iconst 1, 1) := by decide +kernel
theorem d_L_law_215 : decode zy_L_law.2.1 215 = .ok (.iadd, 1) := by decide +kernel
theorem d_L_law_216 : decode zy_L_law.2.1 216 = .ok (.iaload, 1) := by decide +kernel
theorem d_L_law_217 : decode zy_L_law.2.1 217 = .ok (.aload_n 0, 1) := by decide +kernel
theorem d_L_law_218 : decode zy_L_law.2.1 218 = .ok (.iload_n 3, 1) := by decide +kernel
theorem d_L_law_219 : decode zy_L_law.2.1 219 = .ok (.iconst 2, 1) := by decide +kernel
theorem d_L_law_220 : decode zy_L_law.2.1 220 = .ok (.iadd, 1) := by decide +kernel
theorem d_L_law_221 : decode zy_L_law.2.1 221 = .ok (.iaload, 1) := by decide +kernel
theorem d_L_law_222 : decode zy_L_law.2.1 222 = .ok (.invokevirtual 21, 3) := by decide +kernel
theorem d_L_law_225 : decode zy_L_law.2.1 225 = .ok (.if_icmp .eq (817), 3) := by decide +kernel
theorem d_L_law_228 : decode zy_L_law.2.1 228 = .ok (.iconst 0, 1) := by decide +kernel
theorem d_L_law_229 : decode zy_L_law.2.1 229 = .ok (.ireturn, 1) := by decide +kernel
theorem d_L_law_230 : decode zy_L_law.2.1 230 = .ok (.aload_n 1, 1) := by decide +kernel
theorem d_L_law_231 : decode zy_L_law.2.1 231 = .ok (.aload_n 0, 1) := by decide +kernel
theorem d_L_law_232 : decode zy_L_law.2.1 232 = .ok (.iload_n 3, 1) := by decide +kernel
theorem d_L_law_233 : decode zy_L_law.2.1 233 = .ok (.iconst 1, 1) := by decide +kernel
theorem d_L_law_234 : decode zy_L_law.2.1 234 = .ok (.iadd, 1) := by decide +kernel
theorem d_L_law_235 : decode zy_L_law.2.1 235 = .ok (.iaload, 1) := by decide +kernel
theorem d_L_law_236 : decode zy_L_law.2.1 236 = .ok (.invokevirtual 22, 3) := by decide +kernel
theorem d_L_law_239 : decode zy_L_law.2.1 239 = .ok (.aload_n 2, 1) := by decide +kernel
theorem d_L_law_240 : decode zy_L_law.2.1 240 = .ok (.aload_n 0, 1) := by decide +kernel
theorem d_L_law_241 : decode zy_L_law.2.1 241 = .ok (.iload_n 3, 1) := by decide +kernel
theorem d_L_law_242 : decode zy_L_law.2.1 242 = .ok (.iconst 1, 1) := by decide +kernel
theorem d_L_law_243 : decode zy_L_law.2.1 243 = .ok (.iadd, 1) := by decide +kernel
theorem d_L_law_244 : decode zy_L_law.2.1 244 = .ok (.iaload, 1) := by decide +kernel
theorem d_L_law_245 : decode zy_L_law.2.1 245 = .ok (.invokevirtual 26, 3) := by decide +kernel
theorem d_L_law_248 : decode zy_L_law.2.1 248 = .ok (.if_icmp .eq (794), 3) := by decide +kernel
theorem d_L_law_251 : decode zy_L_law.2.1 251 = .ok (.iconst 0, 1) := by decide +kernel
theorem d_L_law_252 : decode zy_L_law.2.1 252 = .ok (.ireturn, 1) := by decide +kernel
theorem d_L_law_253 : decode zy_L_law.2.1 253 = .ok (.aload_n 1, 1) := by decide +kernel
theorem d_L_law_254 : decode zy_L_law.2.1 254 = .ok (.aload_n 0, 1) := by decide +kernel
theorem d_L_law_255 : decode zy_L_law.2.1 255 = .ok (.iload_n 3, 1) := by decide +kernel
theorem d_L_law_256 : decode zy_L_law.2.1 256 = .ok (.iconst 1, 1) := by decide +kernel
theorem d_L_law_257 : decode zy_L_law.2.1 257 = .ok (.iadd, 1) := by decide +kernel
theorem d_L_law_258 : decode zy_L_law.2.1 258 = .ok (.iaload, 1) := by decide +kernel
theorem d_L_law_259 : decode zy_L_law.2.1 259 = .ok (.aload_n 0, 1) := by decide +kernel
theorem d_L_law_260 : decode zy_L_law.2.1 260 = .ok (.iload_n 3, 1) := by decide +kernel
theorem d_L_law_261 : decode zy_L_law.2.1 261 = .ok (.iconst 2, 1) := by decide +kernel
theorem d_L_law_262 : decode zy_L_law.2.1 262 = .ok (.iadd, 1) := by decide +kernel
theorem d_L_law_263 : decode zy_L_law.2.1 263 = .ok (.iaload, 1) := by decide +kernel
theorem d_L_law_264 : decode zy_L_law.2.1 264 = .ok (.invokevirtual 27, 3) := by decide +kernel
theorem d_L_law_267 : decode zy_L_law.2.1 267 = .ok (.aload_n 2, 1) := by decide +kernel
theorem d_L_law_268 : decode zy_L_law.2.1 268 = .ok (.aload_n 0, 1) := by decide +kernel
theorem d_L_law_269 : decode zy_L_law.2.1 269 = .ok (.iload_n 3, 1) := by decide +kernel
theorem d_L_law_270 : decode zy_L_law.2.1 270 = .ok (.iconst 1, 1) := by decide +kernel
theorem d_L_law_271 : decode zy_L_law.2.1 271 = .ok (.iadd, 1) := by decide +kernel
theorem d_L_law_272 : decode zy_L_law.2.1 272 = .ok (.iaload, 1) := by decide +kernel
theorem d_L_law_273 : decode zy_L_law.2.1 273 = .ok (.aload_n 0, 1) := by decide +kernel
theorem d_L_law_274 : decode zy_L_law.2.1 274 = .ok (.iload_n 3, 1) := by decide +kernel
theorem d_L_law_275 : decode zy_L_law.2.1 275 = .ok (.iconst 2, 1) := by decide +kernel
theorem d_L_law_276 : decode zy_L_law.2.1 276 = .ok (.iadd, 1) := by decide +kernel
theorem d_L_law_277 : decode zy_L_law.2.1 277 = .ok (.iaload, 1) := by decide +kernel
theorem d_L_law_278 : decode zy_L_law.2.1 278 = .ok (.invokevirtual 30, 3) := by decide +kernel
theorem d_L_law_281 : decode zy_L_law.2.1 281 = .ok (.if_icmp .eq (761), 3) := by decide +kernel
theorem d_L_law_284 : decode zy_L_law.2.1 284 = .ok (.iconst 0, 1) := by decide +kernel
theorem d_L_law_285 : decode zy_L_law.2.1 285 = .ok (.ireturn, 1) := by decide +kernel
theorem d_L_law_286 : decode zy_L_law.2.1 286 = .ok (.aload_n 1, 1) := by decide +kernel
theorem d_L_law_287 : decode zy_L_law.2.1 287 = .ok (.aload_n 0, 1) := by decide +kernel
theorem d_L_law_288 : decode zy_L_law.2.1 288 = .ok (.iload_n 3, 1) := by decide +kernel
theorem d_L_law_289 : decode zy_L_law.2.1 289 = .ok (.iconst 1, 1) := by decide +kernel
theorem d_L_law_290 : decode zy_L_law.2.1 290 = .ok (.iadd, 1) := by decide +kernel
theorem d_L_law_291 : decode zy_L_law.2.1 291 = .ok (.iaload, 1) := by decide +kernel
theorem d_L_law_292 : decode zy_L_law.2.1 292 = .ok (.aload_n 0, 1) := by decide +kernel
theorem d_L_law_293 : decode zy_L_law.2.1 293 = .ok (.iload_n 3, 1) := by decide +kernel
theorem d_L_law_294 : decode zy_L_law.2.1 294 = .ok (.iconst 2, 1) := by decide +kernel
theorem d_L_law_295 : decode zy_L_law.2.1 295 = .ok (.iadd, 1) := by decide +kernel
theorem d_L_law_296 : decode zy_L_law.2.1 296 = .ok (.iaload, 1) := by decide +kernel
theorem d_L_law_297 : decode zy_L_law.2.1 297 = .ok (.aload_n 0, 1) := by decide +kernel
theorem d_L_law_298 : decode zy_L_law.2.1 298 = .ok (.iload_n 3, 1) := by decide +kernel
theorem d_L_law_299 : decode zy_L_law.2.1 299 = .ok (.iconst 3, 1) := by decide +kernel
theorem d_L_law_300 : decode zy_L_law.2.1 300 = .ok (.iadd, 1) := by decide +kernel
theorem d_L_law_301 : decode zy_L_law.2.1 301 = .ok (.iaload, 1) := by decide +kernel
theorem d_L_law_302 : decode zy_L_law.2.1 302 = .ok (.invokevirtual 31, 3) := by decide +kernel
theorem d_L_law_305 : decode zy_L_law.2.1 305 = .ok (.aload_n 2, 1) := by decide +kernel
theorem d_L_law_306 : decode zy_L_law.2.1 306 = .ok (.aload_n 0, 1) := by decide +kernel
theorem d_L_law_307 : decode zy_L_law.2.1 307 = .ok (.iload_n 3, 1) := by decide +kernel
theorem d_L_law_308 : decode zy_L_law.2.1 308 = .ok (.iconst 1, 1) := by decide +kernel
theorem d_L_law_309 : decode zy_L_law.2.1 309 = .ok (.iadd, 1) := by decide +kernel
theorem d_L_law_310 : decode zy_L_law.2.1 310 = .ok (.iaload, 1) := by decide +kernel
theorem d_L_law_311 : decode zy_L_law.2.1 311 = .ok (.aload_n 0, 1) := by decide +kernel
theorem d_L_law_312 : decode zy_L_law.2.1 312 = .ok (.iload_n 3, 1) := by decide +kernel
theorem d_L_law_313 : decode zy_L_law.2.1 313 = .ok (.iconst 2, 1) := by decide +kernel
theorem d_L_law_314 : decode zy_L_law.2.1 314 = .ok (.iadd, 1) := by decide +kernel
theorem d_L_law_315 : decode zy_L_law.2.1 315 = .ok (.iaload, 1) := by decide +kernel
theorem d_L_law_316 : decode zy_L_law.2.1 316 = .ok (.aload_n 0, 1) := by decide +kernel
theorem d_L_law_317 : decode zy_L_law.2.1 317 = .ok (.iload_n 3, 1) := by decide +kernel
theorem d_L_law_318 : decode zy_L_law.2.1 318 = .ok (.iconst 3, 1) := by decide +kernel
theorem d_L_law_319 : decode zy_L_law.2.1 319 = .ok (.iadd, 1) := by decide +kernel
theorem d_L_law_320 : decode zy_L_law.2.1 320 = .ok (.iaload, 1) := by decide +kernel
theorem d_L_law_321 : decode zy_L_law.2.1 321 = .ok (.invokevirtual 35, 3) := by decide +kernel
theorem d_L_law_324 : decode zy_L_law.2.1 324 = .ok (.if_icmp .eq (718), 3) := by decide +kernel
theorem d_L_law_327 : decode zy_L_law.2.1 327 = .ok (.iconst 0, 1) := by decide +kernel
theorem d_L_law_328 : decode zy_L_law.2.1 328 = .ok (.ireturn, 1) := by decide +kernel
theorem d_L_law_329 : decode zy_L_law.2.1 329 = .ok (.aload_n 1, 1) := by decide +kernel
theorem d_L_law_330 : decode zy_L_law.2.1 330 = .ok (.aload_n 0, 1) := by decide +kernel
theorem d_L_law_331 : decode zy_L_law.2.1 331 = .ok (.iload_n 3, 1) := by decide +kernel
theorem d_L_law_332 : decode zy_L_law.2.1 332 = .ok (.iconst 1, 1) := by decide +kernel
theorem d_L_law_333 : decode zy_L_law.2.1 333 = .ok (.iadd, 1) := by decide +kernel
theorem d_L_law_334 : decode zy_L_law.2.1 334 = .ok (.iaload, 1) := by decide +kernel
theorem d_L_law_335 : decode zy_L_law.2.1 335 = .ok (.aload_n 0, 1) := by decide +kernel
theorem d_L_law_336 : decode zy_L_law.2.1 336 = .ok (.iload_n 3, 1) := by decide +kernel
theorem d_L_law_337 : decode zy_L_law.2.1 337 = .ok (.iconst 2, 1) := by decide +kernel
theorem d_L_law_338 : decode zy_L_law.2.1 338 = .ok (.iadd, 1) := by decide +kernel
theorem d_L_law_339 : decode zy_L_law.2.1 339 = .ok (.iaload, 1) := by decide +kernel
theorem d_L_law_340 : decode zy_L_law.2.1 340 = .ok (.aload_n 0, 1) := by decide +kernel
theorem d_L_law_341 : decode zy_L_law.2.1 341 = .ok (.iload_n 3, 1) := by decide +kernel
theorem d_L_law_342 : decode zy_L_law.2.1 342 = .ok (.iconst 3, 1) := by decide +kernel
theorem d_L_law_343 : decode zy_L_law.2.1 343 = .ok (.iadd, 1) := by decide +kernel
theorem d_L_law_344 : decode zy_L_law.2.1 344 = .ok (.iaload, 1) := by decide +kernel
theorem d_L_law_345 : decode zy_L_law.2.1 345 = .ok (.invokevirtual 36, 3) := by decide +kernel
theorem d_L_law_348 : decode zy_L_law.2.1 348 = .ok (.aload_n 2, 1) := by decide +kernel
theorem d_L_law_349 : decode zy_L_law.2.1 349 = .ok (.aload_n 0, 1) := by decide +kernel
theorem d_L_law_350 : decode zy_L_law.2.1 350 = .ok (.iload_n 3, 1) := by decide +kernel
theorem d_L_law_351 : decode zy_L_law.2.1 351 = .ok (.iconst 1, 1) := by decide +kernel
theorem d_L_law_352 : decode zy_L_law.2.1 352 = .ok (.iadd, 1) := by decide +kernel
theorem d_L_law_353 : decode zy_L_law.2.1 353 = .ok (.iaload, 1) := by decide +kernel
theorem d_L_law_354 : decode zy_L_law.2.1 354 = .ok (.aload_n 0, 1) := by decide +kernel
theorem d_L_law_355 : decode zy_L_law.2.1 355 = .ok (.iload_n 3, 1) := by decide +kernel
theorem d_L_law_356 : decode zy_L_law.2.1 356 = .ok (.iconst 2, 1) := by decide +kernel
theorem d_L_law_357 : decode zy_L_law.2.1 357 = .ok (.iadd, 1) := by decide +kernel
theorem d_L_law_358 : decode zy_L_law.2.1 358 = .ok (.iaload, 1) := by decide +kernel
theorem d_L_law_359 : decode zy_L_law.2.1 359 = .ok (.aload_n 0, 1) := by decide +kernel
theorem d_L_law_360 : decode zy_L_law.2.1 360 = .ok (.iload_n 3, 1) := by decide +kernel
theorem d_L_law_361 : decode zy_L_law.2.1 361 = .ok (.iconst 3, 1) := by decide +kernel
theorem d_L_law_362 : decode zy_L_law.2.1 362 = .ok (.iadd, 1) := by decide +kernel
theorem d_L_law_363 : decode zy_L_law.2.1 363 = .ok (.iaload, 1) := by decide +kernel
theorem d_L_law_364 : decode zy_L_law.2.1 364 = .ok (.invokevirtual 39, 3) := by decide +kernel
theorem d_L_law_367 : decode zy_L_law.2.1 367 = .ok (.if_icmp .eq (675), 3) := by decide +kernel
theorem d_L_law_370 : decode zy_L_law.2.1 370 = .ok (.iconst 0, 1) := by decide +kernel
theorem d_L_law_371 : decode zy_L_law.2.1 371 = .ok (.ireturn, 1) := by decide +kernel
theorem d_L_law_372 : decode zy_L_law.2.1 372 = .ok (.aload_n 1, 1) := by decide +kernel
theorem d_L_law_373 : decode zy_L_law.2.1 373 = .ok (.aload_n 0, 1) := by decide +kernel
theorem d_L_law_374 : decode zy_L_law.2.1 374 = .ok (.iload_n 3, 1) := by decide +kernel
theorem d_L_law_375 : decode zy_L_law.2.1 375 = .ok (.iconst 1, 1) := by decide +kernel
theorem d_L_law_376 : decode zy_L_law.2.1 376 = .ok (.iadd, 1) := by decide +kernel
theorem d_L_law_377 : decode zy_L_law.2.1 377 = .ok (.iaload, 1) := by decide +kernel
theorem d_L_law_378 : decode zy_L_law.2.1 378 = .ok (.aload_n 0, 1) := by decide +kernel
theorem d_L_law_379 : decode zy_L_law.2.1 379 = .ok (.iload_n 3, 1) := by decide +kernel
theorem d_L_law_380 : decode zy_L_law.2.1 380 = .ok (.iconst 2, 1) := by decide +kernel
theorem d_L_law_381 : decode zy_L_law.2.1 381 = .ok (.iadd, 1) := by decide +kernel
theorem d_L_law_382 : decode zy_L_law.2.1 382 = .ok (.iaload, 1) := by decide +kernel
theorem d_L_law_383 : decode zy_L_law.2.1 383 = .ok (.i2l, 1) := by decide +kernel
theorem d_L_law_384 : decode zy_L_law.2.1 384 = .ok (.bipush 32, 2) := by decide +kernel
theorem d_L_law_386 : decode zy_L_law.2.1 386 = .ok (.lshl, 1) := by decide +kernel
theorem d_L_law_387 : decode zy_L_law.2.1 387 = .ok (.aload_n 0, 1) := by decide +kernel
theorem d_L_law_388 : decode zy_L_law.2.1 388 = .ok (.iload_n 3, 1) := by decide +kernel
theorem d_L_law_389 : decode zy_L_law.2.1 389 = .ok (.iconst 3, 1) := by decide +kernel
theorem d_L_law_390 : decode zy_L_law.2.1 390 = .ok (.iadd, 1) := by decide +kernel
theorem d_L_law_391 : decode zy_L_law.2.1 391 = .ok (.iaload, 1) := by decide +kernel
theorem d_L_law_392 : decode zy_L_law.2.1 392 = .ok (.i2l, 1) := by decide +kernel
theorem d_L_law_393 : decode zy_L_law.2.1 393 = .ok (.ldc2_w 40, 3) := by decide +kernel
theorem d_L_law_396 : decode zy_L_law.2.1 396 = .ok (.land, 1) := by decide +kernel
theorem d_L_law_397 : decode zy_L_law.2.1 397 = .ok (.lor, 1) := by decide +kernel
theorem d_L_law_398 : decode zy_L_law.2.1 398 = .ok (.invokevirtual 42, 3) := by decide +kernel
theorem d_L_law_401 : decode zy_L_law.2.1 401 = .ok (.aload_n 2, 1) := by decide +kernel
theorem d_L_law_402 : decode zy_L_law.2.1 402 = .ok (.aload_n 0, 1) := by decide +kernel
theorem d_L_law_403 : decode zy_L_law.2.1 403 = .ok (.iload_n 3, 1) := by decide +kernel
theorem d_L_law_404 : decode zy_L_law.2.1 404 = .ok (.iconst 1, 1) := by decide +kernel
theorem d_L_law_405 : decode zy_L_law.2.1 405 = .ok (.iadd, 1) := by decide +kernel
theorem d_L_law_406 : decode zy_L_law.2.1 406 = .ok (.iaload, 1) := by decide +kernel
theorem d_L_law_407 : decode zy_L_law.2.1 407 = .ok (.aload_n 0, 1) := by decide +kernel
theorem d_L_law_408 : decode zy_L_law.2.1 408 = .ok (.iload_n 3, 1) := by decide +kernel
theorem d_L_law_409 : decode zy_L_law.2.1 409 = .ok (.iconst 2, 1) := by decide +kernel
theorem d_L_law_410 : decode zy_L_law.2.1 410 = .ok (.iadd, 1) := by decide +kernel
theorem d_L_law_411 : decode zy_L_law.2.1 411 = .ok (.iaload, 1) := by decide +kernel
theorem d_L_law_412 : decode zy_L_law.2.1 412 = .ok (.i2l, 1) := by decide +kernel
theorem d_L_law_413 : decode zy_L_law.2.1 413 = .ok (.bipush 32, 2) := by decide +kernel
theorem d_L_law_415 : decode zy_L_law.2.1 415 = .ok (.lshl, 1) := by decide +kernel
theorem d_L_law_416 : decode zy_L_law.2.1 416 = .ok (.aload_n 0, 1) := by decide +kernel
theorem d_L_law_417 : decode zy_L_law.2.1 417 = .ok (.iload_n 3, 1) := by decide +kernel
theorem d_L_law_418 : decode zy_L_law.2.1 418 = .ok (.iconst 3, 1) := by decide +kernel
theorem d_L_law_419 : decode zy_L_law.2.1 419 = .ok (.iadd, 1) := by decide +kernel
theorem d_L_law_420 : decode zy_L_law.2.1 420 = .ok (.iaload, 1) := by decide +kernel
theorem d_L_law_421 : decode zy_L_law.2.1 421 = .ok (.i2l, 1) := by decide +kernel
theorem d_L_law_422 : decode zy_L_law.2.1 422 = .ok (.ldc2_w 40, 3) := by decide +kernel
theorem d_L_law_425 : decode zy_L_law.2.1 425 = .ok (.land, 1) := by decide +kernel
theorem d_L_law_426 : decode zy_L_law.2.1 426 = .ok (.lor, 1) := by decide +kernel
theorem d_L_law_427 : decode zy_L_law.2.1 427 = .ok (.invokevirtual 46, 3) := by decide +kernel
theorem d_L_law_430 : decode zy_L_law.2.1 430 = .ok (.if_icmp .eq (612), 3) := by decide +kernel
theorem d_L_law_433 : decode zy_L_law.2.1 433 = .ok (.iconst 0, 1) := by decide +kernel
theorem d_L_law_434 : decode zy_L_law.2.1 434 = .ok (.ireturn, 1) := by decide +kernel
theorem d_L_law_435 : decode zy_L_law.2.1 435 = .ok (.aload_n 1, 1) := by decide +kernel
theorem d_L_law_436 : decode zy_L_law.2.1 436 = .ok (.invokevirtual 47, 3) := by decide +kernel
theorem d_L_law_439 : decode zy_L_law.2.1 439 = .ok (.aload_n 2, 1) := by decide +kernel
theorem d_L_law_440 : decode zy_L_law.2.1 440 = .ok (.invokevirtual 51, 3) := by decide +kernel
theorem d_L_law_443 : decode zy_L_law.2.1 443 = .ok (.if_icmp .eq (599), 3) := by decide +kernel
theorem d_L_law_446 : decode zy_L_law.2.1 446 = .ok (.iconst 0, 1) := by decide +kernel
theorem d_L_law_447 : decode zy_L_law.2.1 447 = .ok (.ireturn, 1) := by decide +kernel
theorem d_L_law_448 : decode zy_L_law.2.1 448 = .ok (.aload_n 1, 1) := by decide +kernel
theorem d_L_law_449 : decode zy_L_law.2.1 449 = .ok (.aload_n 0, 1) := by decide +kernel
theorem d_L_law_450 : decode zy_L_law.2.1 450 = .ok (.iload_n 3, 1) := by decide +kernel
theorem d_L_law_451 : decode zy_L_law.2.1 451 = .ok (.iconst 1, 1) := by decide +kernel
theorem d_L_law_452 : decode zy_L_law.2.1 452 = .ok (.iadd, 1) := by decide +kernel
theorem d_L_law_453 : decode zy_L_law.2.1 453 = .ok (.iaload, 1) := by decide +kernel
theorem d_L_law_454 : decode zy_L_law.2.1 454 = .ok (.invokevirtual 52, 3) := by decide +kernel
theorem d_L_law_457 : decode zy_L_law.2.1 457 = .ok (.aload_n 2, 1) := by decide +kernel
theorem d_L_law_458 : decode zy_L_law.2.1 458 = .ok (.aload_n 0, 1) := by decide +kernel
theorem d_L_law_459 : decode zy_L_law.2.1 459 = .ok (.iload_n 3, 1) := by decide +kernel
theorem d_L_law_460 : decode zy_L_law.2.1 460 = .ok (.iconst 1, 1) := by decide +kernel
theorem d_L_law_461 : decode zy_L_law.2.1 461 = .ok (.iadd, 1) := by decide +kernel
theorem d_L_law_462 : decode zy_L_law.2.1 462 = .ok (.iaload, 1) := by decide +kernel
theorem d_L_law_463 : decode zy_L_law.2.1 463 = .ok (.invokevirtual 55, 3) := by decide +kernel
theorem d_L_law_466 : decode zy_L_law.2.1 466 = .ok (.if_icmp .eq (576), 3) := by decide +kernel
theorem d_L_law_469 : decode zy_L_law.2.1 469 = .ok (.iconst 0, 1) := by decide +kernel
theorem d_L_law_470 : decode zy_L_law.2.1 470 = .ok (.ireturn, 1) := by decide +kernel
theorem d_L_law_471 : decode zy_L_law.2.1 471 = .ok (.aload_n 1, 1) := by decide +kernel
theorem d_L_law_472 : decode zy_L_law.2.1 472 = .ok (.aload_n 0, 1) := by decide +kernel
theorem d_L_law_473 : decode zy_L_law.2.1 473 = .ok (.iload_n 3, 1) := by decide +kernel
theorem d_L_law_474 : decode zy_L_law.2.1 474 = .ok (.iconst 1, 1) := by decide +kernel
theorem d_L_law_475 : decode zy_L_law.2.1 475 = .ok (.iadd, 1) := by decide +kernel
theorem d_L_law_476 : decode zy_L_law.2.1 476 = .ok (.iaload, 1) := by decide +kernel
theorem d_L_law_477 : decode zy_L_law.2.1 477 = .ok (.aload_n 0, 1) := by decide +kernel
theorem d_L_law_478 : decode zy_L_law.2.1 478 = .ok (.iload_n 3, 1) := by decide +kernel
theorem d_L_law_479 : decode zy_L_law.2.1 479 = .ok (.iconst 2, 1) := by decide +kernel
theorem d_L_law_480 : decode zy_L_law.2.1 480 = .ok (.iadd, 1) := by decide +kernel
theorem d_L_law_481 : decode zy_L_law.2.1 481 = .ok (.iaload, 1) := by decide +kernel
theorem d_L_law_482 : decode zy_L_law.2.1 482 = .ok (.invokevirtual 56, 3) := by decide +kernel
theorem d_L_law_485 : decode zy_L_law.2.1 485 = .ok (.aload_n 2, 1) := by decide +kernel
theorem d_L_law_486 : decode zy_L_law.2.1 486 = .ok (.aload_n 0, 1) := by decide +kernel
theorem d_L_law_487 : decode zy_L_law.2.1 487 = .ok (.iload_n 3, 1) := by decide +kernel
theorem d_L_law_488 : decode zy_L_law.2.1 488 = .ok (.iconst 1, 1) := by decide +kernel
theorem d_L_law_489 : decode zy_L_law.2.1 489 = .ok (.iadd, 1) := by decide +kernel
theorem d_L_law_490 : decode zy_L_law.2.1 490 = .ok (.iaload, 1) := by decide +kernel
theorem d_L_law_491 : decode zy_L_law.2.1 491 = .ok (.aload_n 0, 1) := by decide +kernel
theorem d_L_law_492 : decode zy_L_law.2.1 492 = .ok (.iload_n 3, 1) := by decide +kernel
theorem d_L_law_493 : decode zy_L_law.2.1 493 = .ok (.iconst 2, 1) := by decide +kernel
theorem d_L_law_494 : decode zy_L_law.2.1 494 = .ok (.iadd, 1) := by decide +kernel
theorem d_L_law_495 : decode zy_L_law.2.1 495 = .ok (.iaload, 1) := by decide +kernel
theorem d_L_law_496 : decode zy_L_law.2.1 496 = .ok (.invokevirtual 59, 3) := by decide +kernel
theorem d_L_law_499 : decode zy_L_law.2.1 499 = .ok (.if_icmp .eq (543), 3) := by decide +kernel
theorem d_L_law_502 : decode zy_L_law.2.1 502 = .ok (.iconst 0, 1) := by decide +kernel
theorem d_L_law_503 : decode zy_L_law.2.1 503 = .ok (.ireturn, 1) := by decide +kernel
theorem d_L_law_504 : decode zy_L_law.2.1 504 = .ok (.aload_n 1, 1) := by decide +kernel
theorem d_L_law_505 : decode zy_L_law.2.1 505 = .ok (.aload_n 0, 1) := by decide +kernel
theorem d_L_law_506 : decode zy_L_law.2.1 506 = .ok (.iload_n 3, 1) := by decide +kernel
theorem d_L_law_507 : decode zy_L_law.2.1 507 = .ok (.iconst 1, 1) := by decide +kernel
theorem d_L_law_508 : decode zy_L_law.2.1 508 = .ok (.iadd, 1) := by decide +kernel
theorem d_L_law_509 : decode zy_L_law.2.1 509 = .ok (.iaload, 1) := by decide +kernel
theorem d_L_law_510 : decode zy_L_law.2.1 510 = .ok (.invokevirtual 60, 3) := by decide +kernel
theorem d_L_law_513 : decode zy_L_law.2.1 513 = .ok (.aload_n 2, 1) := by decide +kernel
theorem d_L_law_514 : decode zy_L_law.2.1 514 = .ok (.aload_n 0, 1) := by decide +kernel
theorem d_L_law_515 : decode zy_L_law.2.1 515 = .ok (.iload_n 3, 1) := by decide +kernel
theorem d_L_law_516 : decode zy_L_law.2.1 516 = .ok (.iconst 1, 1) := by decide +kernel
theorem d_L_law_517 : decode zy_L_law.2.1 517 = .ok (.iadd, 1) := by decide +kernel
theorem d_L_law_518 : decode zy_L_law.2.1 518 = .ok (.iaload, 1) := by decide +kernel
theorem d_L_law_519 : decode zy_L_law.2.1 519 = .ok (.invokevirtual 63, 3) := by decide +kernel
theorem d_L_law_522 : decode zy_L_law.2.1 522 = .ok (.if_icmp .eq (520), 3) := by decide +kernel
theorem d_L_law_525 : decode zy_L_law.2.1 525 = .ok (.iconst 0, 1) := by decide +kernel
theorem d_L_law_526 : decode zy_L_law.2.1 526 = .ok (.ireturn, 1) := by decide +kernel
theorem d_L_law_527 : decode zy_L_law.2.1 527 = .ok (.aload_n 1, 1) := by decide +kernel
theorem d_L_law_528 : decode zy_L_law.2.1 528 = .ok (.aload_n 0, 1) := by decide +kernel
theorem d_L_law_529 : decode zy_L_law.2.1 529 = .ok (.iload_n 3, 1) := by decide +kernel
theorem d_L_law_530 : decode zy_L_law.2.1 530 = .ok (.iconst 1, 1) := by decide +kernel
theorem d_L_law_531 : decode zy_L_law.2.1 531 = .ok (.iadd, 1) := by decide +kernel
theorem d_L_law_532 : decode zy_L_law.2.1 532 = .ok (.iaload, 1) := by decide +kernel
theorem d_L_law_533 : decode zy_L_law.2.1 533 = .ok (.invokevirtual 64, 3) := by decide +kernel
theorem d_L_law_536 : decode zy_L_law.2.1 536 = .ok (.aload_n 2, 1) := by decide +kernel
theorem d_L_law_537 : decode zy_L_law.2.1 537 = .ok (.aload_n 0, 1) := by decide +kernel
theorem d_L_law_538 : decode zy_L_law.2.1 538 = .ok (.iload_n 3, 1) := by decide +kernel
theorem d_L_law_539 : decode zy_L_law.2.1 539 = .ok (.iconst 1, 1) := by decide +kernel
theorem d_L_law_540 : decode zy_L_law.2.1 540 = .ok (.iadd, 1) := by decide +kernel
theorem d_L_law_541 : decode zy_L_law.2.1 541 = .ok (.iaload, 1) := by decide +kernel
theorem d_L_law_542 : decode zy_L_law.2.1 542 = .ok (.invokevirtual 67, 3) := by decide +kernel
theorem d_L_law_545 : decode zy_L_law.2.1 545 = .ok (.if_icmp .eq (497), 3) := by decide +kernel
theorem d_L_law_548 : decode zy_L_law.2.1 548 = .ok (.iconst 0, 1) := by decide +kernel
theorem d_L_law_549 : decode zy_L_law.2.1 549 = .ok (.ireturn, 1) := by decide +kernel
theorem d_L_law_550 : decode zy_L_law.2.1 550 = .ok (.aload_n 1, 1) := by decide +kernel
theorem d_L_law_551 : decode zy_L_law.2.1 551 = .ok (.aload_n 0, 1) := by decide +kernel
theorem d_L_law_552 : decode zy_L_law.2.1 552 = .ok (.iload_n 3, 1) := by decide +kernel
theorem d_L_law_553 : decode zy_L_law.2.1 553 = .ok (.iconst 1, 1) := by decide +kernel
theorem d_L_law_554 : decode zy_L_law.2.1 554 = .ok (.iadd, 1) := by decide +kernel
theorem d_L_law_555 : decode zy_L_law.2.1 555 = .ok (.iaload, 1) := by decide +kernel
theorem d_L_law_556 : decode zy_L_law.2.1 556 = .ok (.aload_n 0, 1) := by decide +kernel
theorem d_L_law_557 : decode zy_L_law.2.1 557 = .ok (.iload_n 3, 1) := by decide +kernel
theorem d_L_law_558 : decode zy_L_law.2.1 558 = .ok (.iconst 2, 1) := by decide +kernel
theorem d_L_law_559 : decode zy_L_law.2.1 559 = .ok (.iadd, 1) := by decide +kernel
theorem d_L_law_560 : decode zy_L_law.2.1 560 = .ok (.iaload, 1) := by decide +kernel
theorem d_L_law_561 : decode zy_L_law.2.1 561 = .ok (.invokevirtual 68, 3) := by decide +kernel
theorem d_L_law_564 : decode zy_L_law.2.1 564 = .ok (.aload_n 2, 1) := by decide +kernel
theorem d_L_law_565 : decode zy_L_law.2.1 565 = .ok (.aload_n 0, 1) := by decide +kernel
theorem d_L_law_566 : decode zy_L_law.2.1 566 = .ok (.iload_n 3, 1) := by decide +kernel
theorem d_L_law_567 : decode zy_L_law.2.1 567 = .ok (.iconst 1, 1) := by decide +kernel
theorem d_L_law_568 : decode zy_L_law.2.1 568 = .ok (.iadd, 1) := by decide +kernel
theorem d_L_law_569 : decode zy_L_law.2.1 569 = .ok (.iaload, 1) := by decide +kernel
theorem d_L_law_570 : decode zy_L_law.2.1 570 = .ok (.aload_n 0, 1) := by decide +kernel
theorem d_L_law_571 : decode zy_L_law.2.1 571 = .ok (.iload_n 3, 1) := by decide +kernel
theorem d_L_law_572 : decode zy_L_law.2.1 572 = .ok (.iconst 2, 1) := by decide +kernel
theorem d_L_law_573 : decode zy_L_law.2.1 573 = .ok (.iadd, 1) := by decide +kernel
theorem d_L_law_574 : decode zy_L_law.2.1 574 = .ok (.iaload, 1) := by decide +kernel
theorem d_L_law_575 : decode zy_L_law.2.1 575 = .ok (.invokevirtual 71, 3) := by decide +kernel
theorem d_L_law_578 : decode zy_L_law.2.1 578 = .ok (.if_icmp .eq (464), 3) := by decide +kernel
theorem d_L_law_581 : decode zy_L_law.2.1 581 = .ok (.iconst 0, 1) := by decide +kernel
theorem d_L_law_582 : decode zy_L_law.2.1 582 = .ok (.ireturn, 1) := by decide +kernel
theorem d_L_law_583 : decode zy_L_law.2.1 583 = .ok (.aload_n 1, 1) := by decide +kernel
theorem d_L_law_584 : decode zy_L_law.2.1 584 = .ok (.aload_n 0, 1) := by decide +kernel
theorem d_L_law_585 : decode zy_L_law.2.1 585 = .ok (.iload_n 3, 1) := by decide +kernel
theorem d_L_law_586 : decode zy_L_law.2.1 586 = .ok (.iconst 1, 1) := by decide +kernel
theorem d_L_law_587 : decode zy_L_law.2.1 587 = .ok (.iadd, 1) := by decide +kernel
theorem d_L_law_588 : decode zy_L_law.2.1 588 = .ok (.iaload, 1) := by decide +kernel
theorem d_L_law_589 : decode zy_L_law.2.1 589 = .ok (.aload_n 0, 1) := by decide +kernel
theorem d_L_law_590 : decode zy_L_law.2.1 590 = .ok (.iload_n 3, 1) := by decide +kernel
theorem d_L_law_591 : decode zy_L_law.2.1 591 = .ok (.iconst 2, 1) := by decide +kernel
theorem d_L_law_592 : decode zy_L_law.2.1 592 = .ok (.iadd, 1) := by decide +kernel
theorem d_L_law_593 : decode zy_L_law.2.1 593 = .ok (.iaload, 1) := by decide +kernel
theorem d_L_law_594 : decode zy_L_law.2.1 594 = .ok (.invokevirtual 72, 3) := by decide +kernel
theorem d_L_law_597 : decode zy_L_law.2.1 597 = .ok (.aload_n 2, 1) := by decide +kernel
theorem d_L_law_598 : decode zy_L_law.2.1 598 = .ok (.aload_n 0, 1) := by decide +kernel
theorem d_L_law_599 : decode zy_L_law.2.1 599 = .ok (.iload_n 3, 1) := by decide +kernel
theorem d_L_law_600 : decode zy_L_law.2.1 600 = .ok (.iconst 1, 1) := by decide +kernel
theorem d_L_law_601 : decode zy_L_law.2.1 601 = .ok (.iadd, 1) := by decide +kernel
theorem d_L_law_602 : decode zy_L_law.2.1 602 = .ok (.iaload, 1) := by decide +kernel
theorem d_L_law_603 : decode zy_L_law.2.1 603 = .ok (.aload_n 0, 1) := by decide +kernel
theorem d_L_law_604 : decode zy_L_law.2.1 604 = .ok (.iload_n 3, 1) := by decide +kernel
theorem d_L_law_605 : decode zy_L_law.2.1 605 = .ok (.iconst 2, 1) := by decide +kernel
theorem d_L_law_606 : decode zy_L_law.2.1 606 = .ok (.iadd, 1) := by decide +kernel
theorem d_L_law_607 : decode zy_L_law.2.1 607 = .ok (.iaload, 1) := by decide +kernel
theorem d_L_law_608 : decode zy_L_law.2.1 608 = .ok (.invokevirtual 75, 3) := by decide +kernel
theorem d_L_law_611 : decode zy_L_law.2.1 611 = .ok (.if_icmp .eq (431), 3) := by decide +kernel
theorem d_L_law_614 : decode zy_L_law.2.1 614 = .ok (.iconst 0, 1) := by decide +kernel
theorem d_L_law_615 : decode zy_L_law.2.1 615 = .ok (.ireturn, 1) := by decide +kernel
theorem d_L_law_616 : decode zy_L_law.2.1 616 = .ok (.aload_n 1, 1) := by decide +kernel
theorem d_L_law_617 : decode zy_L_law.2.1 617 = .ok (.invokevirtual 76, 3) := by decide +kernel
theorem d_L_law_620 : decode zy_L_law.2.1 620 = .ok (.aload_n 2, 1) := by decide +kernel
theorem d_L_law_621 : decode zy_L_law.2.1 621 = .ok (.invokevirtual 79, 3) := by decide +kernel
theorem d_L_law_624 : decode zy_L_law.2.1 624 = .ok (.if_icmp .eq (418), 3) := by decide +kernel
theorem d_L_law_627 : decode zy_L_law.2.1 627 = .ok (.iconst 0, 1) := by decide +kernel
theorem d_L_law_628 : decode zy_L_law.2.1 628 = .ok (.ireturn, 1) := by decide +kernel
theorem d_L_law_629 : decode zy_L_law.2.1 629 = .ok (.aload_n 1, 1) := by decide +kernel
theorem d_L_law_630 : decode zy_L_law.2.1 630 = .ok (.aload_n 0, 1) := by decide +kernel
theorem d_L_law_631 : decode zy_L_law.2.1 631 = .ok (.iload_n 3, 1) := by decide +kernel
theorem d_L_law_632 : decode zy_L_law.2.1 632 = .ok (.iconst 1, 1) := by decide +kernel
theorem d_L_law_633 : decode zy_L_law.2.1 633 = .ok (.iadd, 1) := by decide +kernel
theorem d_L_law_634 : decode zy_L_law.2.1 634 = .ok (.iaload, 1) := by decide +kernel
theorem d_L_law_635 : decode zy_L_law.2.1 635 = .ok (.invokevirtual 80, 3) := by decide +kernel
theorem d_L_law_638 : decode zy_L_law.2.1 638 = .ok (.aload_n 2, 1) := by decide +kernel
theorem d_L_law_639 : decode zy_L_law.2.1 639 = .ok (.aload_n 0, 1) := by decide +kernel
theorem d_L_law_640 : decode zy_L_law.2.1 640 = .ok (.iload_n 3, 1) := by decide +kernel
theorem d_L_law_641 : decode zy_L_law.2.1 641 = .ok (.iconst 1, 1) := by decide +kernel
theorem d_L_law_642 : decode zy_L_law.2.1 642 = .ok (.iadd, 1) := by decide +kernel
theorem d_L_law_643 : decode zy_L_law.2.1 643 = .ok (.iaload, 1) := by decide +kernel
theorem d_L_law_644 : decode zy_L_law.2.1 644 = .ok (.invokevirtual 84, 3) := by decide +kernel
theorem d_L_law_647 : decode zy_L_law.2.1 647 = .ok (.lcmp, 1) := by decide +kernel
theorem d_L_law_648 : decode zy_L_law.2.1 648 = .ok (.ifCond .eq (394), 3) := by decide +kernel
theorem d_L_law_651 : decode zy_L_law.2.1 651 = .ok (.iconst 0, 1) := by decide +kernel
theorem d_L_law_652 : decode zy_L_law.2.1 652 = .ok (.ireturn, 1) := by decide +kernel
theorem d_L_law_653 : decode zy_L_law.2.1 653 = .ok (.aload_n 1, 1) := by decide +kernel
theorem d_L_law_654 : decode zy_L_law.2.1 654 = .ok (.aload_n 0, 1) := by decide +kernel
theorem d_L_law_655 : decode zy_L_law.2.1 655 = .ok (.iload_n 3, 1) := by decide +kernel
theorem d_L_law_656 : decode zy_L_law.2.1 656 = .ok (.iconst 1, 1) := by decide +kernel
theorem d_L_law_657 : decode zy_L_law.2.1 657 = .ok (.iadd, 1) := by decide +kernel
theorem d_L_law_658 : decode zy_L_law.2.1 658 = .ok (.iaload, 1) := by decide +kernel
theorem d_L_law_659 : decode zy_L_law.2.1 659 = .ok (.invokevirtual 85, 3) := by decide +kernel
theorem d_L_law_662 : decode zy_L_law.2.1 662 = .ok (.aload_n 2, 1) := by decide +kernel
theorem d_L_law_663 : decode zy_L_law.2.1 663 = .ok (.aload_n 0, 1) := by decide +kernel
theorem d_L_law_664 : decode zy_L_law.2.1 664 = .ok (.iload_n 3, 1) := by decide +kernel
theorem d_L_law_665 : decode zy_L_law.2.1 665 = .ok (.iconst 1, 1) := by decide +kernel
theorem d_L_law_666 : decode zy_L_law.2.1 666 = .ok (.iadd, 1) := by decide +kernel
theorem d_L_law_667 : decode zy_L_law.2.1 667 = .ok (.iaload, 1) := by decide +kernel
theorem d_L_law_668 : decode zy_L_law.2.1 668 = .ok (.invokevirtual 88, 3) := by decide +kernel
theorem d_L_law_671 : decode zy_L_law.2.1 671 = .ok (.if_icmp .eq (371), 3) := by decide +kernel
theorem d_L_law_674 : decode zy_L_law.2.1 674 = .ok (.iconst 0, 1) := by decide +kernel
theorem d_L_law_675 : decode zy_L_law.2.1 675 = .ok (.ireturn, 1) := by decide +kernel
theorem d_L_law_676 : decode zy_L_law.2.1 676 = .ok (.aload_n 1, 1) := by decide +kernel
theorem d_L_law_677 : decode zy_L_law.2.1 677 = .ok (.invokevirtual 89, 3) := by decide +kernel
theorem d_L_law_680 : decode zy_L_law.2.1 680 = .ok (.aload_n 2, 1) := by decide +kernel
theorem d_L_law_681 : decode zy_L_law.2.1 681 = .ok (.invokevirtual 92, 3) := by decide +kernel
theorem d_L_law_684 : decode zy_L_law.2.1 684 = .ok (.if_icmp .eq (358), 3) := by decide +kernel
theorem d_L_law_687 : decode zy_L_law.2.1 687 = .ok (.iconst 0, 1) := by decide +kernel
theorem d_L_law_688 : decode zy_L_law.2.1 688 = .ok (.ireturn, 1) := by decide +kernel
theorem d_L_law_689 : decode zy_L_law.2.1 689 = .ok (.aload_n 1, 1) := by decide +kernel
theorem d_L_law_690 : decode zy_L_law.2.1 690 = .ok (.aload_n 0, 1) := by decide +kernel
theorem d_L_law_691 : decode zy_L_law.2.1 691 = .ok (.iload_n 3, 1) := by decide +kernel
theorem d_L_law_692 : decode zy_L_law.2.1 692 = .ok (.iconst 1, 1) := by decide +kernel
theorem d_L_law_693 : decode zy_L_law.2.1 693 = .ok (.iadd, 1) := by decide +kernel
theorem d_L_law_694 : decode zy_L_law.2.1 694 = .ok (.iaload, 1) := by decide +kernel
theorem d_L_law_695 : decode zy_L_law.2.1 695 = .ok (.invokevirtual 93, 3) := by decide +kernel
theorem d_L_law_698 : decode zy_L_law.2.1 698 = .ok (.aload_n 2, 1) := by decide +kernel
theorem d_L_law_699 : decode zy_L_law.2.1 699 = .ok (.aload_n 0, 1) := by decide +kernel
theorem d_L_law_700 : decode zy_L_law.2.1 700 = .ok (.iload_n 3, 1) := by decide +kernel
theorem d_L_law_701 : decode zy_L_law.2.1 701 = .ok (.iconst 1, 1) := by decide +kernel
theorem d_L_law_702 : decode zy_L_law.2.1 702 = .ok (.iadd, 1) := by decide +kernel
theorem d_L_law_703 : decode zy_L_law.2.1 703 = .ok (.iaload, 1) := by decide +kernel
theorem d_L_law_704 : decode zy_L_law.2.1 704 = .ok (.invokevirtual 96, 3) := by decide +kernel
theorem d_L_law_707 : decode zy_L_law.2.1 707 = .ok (.if_icmp .eq (335), 3) := by decide +kernel
theorem d_L_law_710 : decode zy_L_law.2.1 710 = .ok (.iconst 0, 1) := by decide +kernel
theorem d_L_law_711 : decode zy_L_law.2.1 711 = .ok (.ireturn, 1) := by decide +kernel
theorem d_L_law_712 : decode zy_L_law.2.1 712 = .ok (.aload_n 1, 1) := by decide +kernel
theorem d_L_law_713 : decode zy_L_law.2.1 713 = .ok (.invokevirtual 97, 3) := by decide +kernel
theorem d_L_law_716 : decode zy_L_law.2.1 716 = .ok (.aload_n 2, 1) := by decide +kernel
theorem d_L_law_717 : decode zy_L_law.2.1 717 = .ok (.invokevirtual 100, 3) := by decide +kernel
theorem d_L_law_720 : decode zy_L_law.2.1 720 = .ok (.if_icmp .eq (322), 3) := by decide +kernel
theorem d_L_law_723 : decode zy_L_law.2.1 723 = .ok (.iconst 0, 1) := by decide +kernel
theorem d_L_law_724 : decode zy_L_law.2.1 724 = .ok (.ireturn, 1) := by decide +kernel
theorem d_L_law_725 : decode zy_L_law.2.1 725 = .ok (.aload_n 1, 1) := by decide +kernel
theorem d_L_law_726 : decode zy_L_law.2.1 726 = .ok (.aload_n 0, 1) := by decide +kernel
theorem d_L_law_727 : decode zy_L_law.2.1 727 = .ok (.iload_n 3, 1) := by decide +kernel
theorem d_L_law_728 : decode zy_L_law.2.1 728 = .ok (.iconst 1, 1) := by decide +kernel
theorem d_L_law_729 : decode zy_L_law.2.1 729 = .ok (.iadd, 1) := by decide +kernel
theorem d_L_law_730 : decode zy_L_law.2.1 730 = .ok (.iaload, 1) := by decide +kernel
theorem d_L_law_731 : decode zy_L_law.2.1 731 = .ok (.aload_n 0, 1) := by decide +kernel
theorem d_L_law_732 : decode zy_L_law.2.1 732 = .ok (.iload_n 3, 1) := by decide +kernel
theorem d_L_law_733 : decode zy_L_law.2.1 733 = .ok (.iconst 2, 1) := by decide +kernel
theorem d_L_law_734 : decode zy_L_law.2.1 734 = .ok (.iadd, 1) := by decide +kernel
theorem d_L_law_735 : decode zy_L_law.2.1 735 = .ok (.iaload, 1) := by decide +kernel
theorem d_L_law_736 : decode zy_L_law.2.1 736 = .ok (.invokevirtual 101, 3) := by decide +kernel
theorem d_L_law_739 : decode zy_L_law.2.1 739 = .ok (.aload_n 2, 1) := by decide +kernel
theorem d_L_law_740 : decode zy_L_law.2.1 740 = .ok (.aload_n 0, 1) := by decide +kernel
theorem d_L_law_741 : decode zy_L_law.2.1 741 = .ok (.iload_n 3, 1) := by decide +kernel
theorem d_L_law_742 : decode zy_L_law.2.1 742 = .ok (.iconst 1, 1) := by decide +kernel
theorem d_L_law_743 : decode zy_L_law.2.1 743 = .ok (.iadd, 1) := by decide +kernel
theorem d_L_law_744 : decode zy_L_law.2.1 744 = .ok (.iaload, 1) := by decide +kernel
theorem d_L_law_745 : decode zy_L_law.2.1 745 = .ok (.aload_n 0, 1) := by decide +kernel
theorem d_L_law_746 : decode zy_L_law.2.1 746 = .ok (.iload_n 3, 1) := by decide +kernel
theorem d_L_law_747 : decode zy_L_law.2.1 747 = .ok (.iconst 2, 1) := by decide +kernel
theorem d_L_law_748 : decode zy_L_law.2.1 748 = .ok (.iadd, 1) := by decide +kernel
theorem d_L_law_749 : decode zy_L_law.2.1 749 = .ok (.iaload, 1) := by decide +kernel
theorem d_L_law_750 : decode zy_L_law.2.1 750 = .ok (.invokevirtual 104, 3) := by decide +kernel
theorem d_L_law_753 : decode zy_L_law.2.1 753 = .ok (.if_icmp .eq (289), 3) := by decide +kernel
theorem d_L_law_756 : decode zy_L_law.2.1 756 = .ok (.iconst 0, 1) := by decide +kernel
theorem d_L_law_757 : decode zy_L_law.2.1 757 = .ok (.ireturn, 1) := by decide +kernel
theorem d_L_law_758 : decode zy_L_law.2.1 758 = .ok (.aload_n 1, 1) := by decide +kernel
theorem d_L_law_759 : decode zy_L_law.2.1 759 = .ok (.invokevirtual 105, 3) := by decide +kernel
theorem d_L_law_762 : decode zy_L_law.2.1 762 = .ok (.aload_n 2, 1) := by decide +kernel
theorem d_L_law_763 : decode zy_L_law.2.1 763 = .ok (.invokevirtual 108, 3) := by decide +kernel
theorem d_L_law_766 : decode zy_L_law.2.1 766 = .ok (.if_icmp .eq (276), 3) := by decide +kernel
theorem d_L_law_769 : decode zy_L_law.2.1 769 = .ok (.iconst 0, 1) := by decide +kernel
theorem d_L_law_770 : decode zy_L_law.2.1 770 = .ok (.ireturn, 1) := by decide +kernel
theorem d_L_law_771 : decode zy_L_law.2.1 771 = .ok (.aload_n 1, 1) := by decide +kernel
theorem d_L_law_772 : decode zy_L_law.2.1 772 = .ok (.invokevirtual 109, 3) := by decide +kernel
theorem d_L_law_775 : decode zy_L_law.2.1 775 = .ok (.aload_n 2, 1) := by decide +kernel
theorem d_L_law_776 : decode zy_L_law.2.1 776 = .ok (.invokevirtual 112, 3) := by decide +kernel
theorem d_L_law_779 : decode zy_L_law.2.1 779 = .ok (.if_icmp .eq (263), 3) := by decide +kernel
theorem d_L_law_782 : decode zy_L_law.2.1 782 = .ok (.iconst 0, 1) := by decide +kernel
theorem d_L_law_783 : decode zy_L_law.2.1 783 = .ok (.ireturn, 1) := by decide +kernel
theorem d_L_law_784 : decode zy_L_law.2.1 784 = .ok (.aload_n 1, 1) := by decide +kernel
theorem d_L_law_785 : decode zy_L_law.2.1 785 = .ok (.aload_n 0, 1) := by decide +kernel
theorem d_L_law_786 : decode zy_L_law.2.1 786 = .ok (.iload_n 3, 1) := by decide +kernel
theorem d_L_law_787 : decode zy_L_law.2.1 787 = .ok (.iconst 1, 1) := by decide +kernel
theorem d_L_law_788 : decode zy_L_law.2.1 788 = .ok (.iadd, 1) := by decide +kernel
theorem d_L_law_789 : decode zy_L_law.2.1 789 = .ok (.iaload, 1) := by decide +kernel
theorem d_L_law_790 : decode zy_L_law.2.1 790 = .ok (.invokevirtual 113, 3) := by decide +kernel
theorem d_L_law_793 : decode zy_L_law.2.1 793 = .ok (.aload_n 2, 1) := by decide +kernel
theorem d_L_law_794 : decode zy_L_law.2.1 794 = .ok (.aload_n 0, 1) := by decide +kernel
theorem d_L_law_795 : decode zy_L_law.2.1 795 = .ok (.iload_n 3, 1) := by decide +kernel
theorem d_L_law_796 : decode zy_L_law.2.1 796 = .ok (.iconst 1, 1) := by decide +kernel
theorem d_L_law_797 : decode zy_L_law.2.1 797 = .ok (.iadd, 1) := by decide +kernel
theorem d_L_law_798 : decode zy_L_law.2.1 798 = .ok (.iaload, 1) := by decide +kernel
theorem d_L_law_799 : decode zy_L_law.2.1 799 = .ok (.invokevirtual 116, 3) := by decide +kernel
theorem d_L_law_802 : decode zy_L_law.2.1 802 = .ok (.if_icmp .eq (240), 3) := by decide +kernel
theorem d_L_law_805 : decode zy_L_law.2.1 805 = .ok (.iconst 0, 1) := by decide +kernel
theorem d_L_law_806 : decode zy_L_law.2.1 806 = .ok (.ireturn, 1) := by decide +kernel
theorem d_L_law_807 : decode zy_L_law.2.1 807 = .ok (.aload_n 1, 1) := by decide +kernel
theorem d_L_law_808 : decode zy_L_law.2.1 808 = .ok (.aload_n 0, 1) := by decide +kernel
theorem d_L_law_809 : decode zy_L_law.2.1 809 = .ok (.iload_n 3, 1) := by decide +kernel
theorem d_L_law_810 : decode zy_L_law.2.1 810 = .ok (.iconst 1, 1) := by decide +kernel
theorem d_L_law_811 : decode zy_L_law.2.1 811 = .ok (.iadd, 1) := by decide +kernel
theorem d_L_law_812 : decode zy_L_law.2.1 812 = .ok (.iaload, 1) := by decide +kernel
theorem d_L_law_813 : decode zy_L_law.2.1 813 = .ok (.aload_n 0, 1) := by decide +kernel
theorem d_L_law_814 : decode zy_L_law.2.1 814 = .ok (.iload_n 3, 1) := by decide +kernel
theorem d_L_law_815 : decode zy_L_law.2.1 815 = .ok (.iconst 2, 1) := by decide +kernel
theorem d_L_law_816 : decode zy_L_law.2.1 816 = .ok (.iadd, 1) := by decide +kernel
theorem d_L_law_817 : decode zy_L_law.2.1 817 = .ok (.iaload, 1) := by decide +kernel
theorem d_L_law_818 : decode zy_L_law.2.1 818 = .ok (.aload_n 0, 1) := by decide +kernel
theorem d_L_law_819 : decode zy_L_law.2.1 819 = .ok (.iload_n 3, 1) := by decide +kernel
theorem d_L_law_820 : decode zy_L_law.2.1 820 = .ok (.iconst 3, 1) := by decide +kernel
theorem d_L_law_821 : decode zy_L_law.2.1 821 = .ok (.iadd, 1) := by decide +kernel
theorem d_L_law_822 : decode zy_L_law.2.1 822 = .ok (.iaload, 1) := by decide +kernel
theorem d_L_law_823 : decode zy_L_law.2.1 823 = .ok (.invokevirtual 117, 3) := by decide +kernel
theorem d_L_law_826 : decode zy_L_law.2.1 826 = .ok (.aload_n 2, 1) := by decide +kernel
theorem d_L_law_827 : decode zy_L_law.2.1 827 = .ok (.aload_n 0, 1) := by decide +kernel
theorem d_L_law_828 : decode zy_L_law.2.1 828 = .ok (.iload_n 3, 1) := by decide +kernel
theorem d_L_law_829 : decode zy_L_law.2.1 829 = .ok (.iconst 1, 1) := by decide +kernel
theorem d_L_law_830 : decode zy_L_law.2.1 830 = .ok (.iadd, 1) := by decide +kernel
theorem d_L_law_831 : decode zy_L_law.2.1 831 = .ok (.iaload, 1) := by decide +kernel
theorem d_L_law_832 : decode zy_L_law.2.1 832 = .ok (.aload_n 0, 1) := by decide +kernel
theorem d_L_law_833 : decode zy_L_law.2.1 833 = .ok (.iload_n 3, 1) := by decide +kernel
theorem d_L_law_834 : decode zy_L_law.2.1 834 = .ok (.iconst 2, 1) := by decide +kernel
theorem d_L_law_835 : decode zy_L_law.2.1 835 = .ok (.iadd, 1) := by decide +kernel
theorem d_L_law_836 : decode zy_L_law.2.1 836 = .ok (.iaload, 1) := by decide +kernel
theorem d_L_law_837 : decode zy_L_law.2.1 837 = .ok (.aload_n 0, 1) := by decide +kernel
theorem d_L_law_838 : decode zy_L_law.2.1 838 = .ok (.iload_n 3, 1) := by decide +kernel
theorem d_L_law_839 : decode zy_L_law.2.1 839 = .ok (.iconst 3, 1) := by decide +kernel
theorem d_L_law_840 : decode zy_L_law.2.1 840 = .ok (.iadd, 1) := by decide +kernel
theorem d_L_law_841 : decode zy_L_law.2.1 841 = .ok (.iaload, 1) := by decide +kernel
theorem d_L_law_842 : decode zy_L_law.2.1 842 = .ok (.invokevirtual 120, 3) := by decide +kernel
theorem d_L_law_845 : decode zy_L_law.2.1 845 = .ok (.if_icmp .eq (197), 3) := by decide +kernel
theorem d_L_law_848 : decode zy_L_law.2.1 848 = .ok (.iconst 0, 1) := by decide +kernel
theorem d_L_law_849 : decode zy_L_law.2.1 849 = .ok (.ireturn, 1) := by decide +kernel
theorem d_L_law_850 : decode zy_L_law.2.1 850 = .ok (.aload_n 1, 1) := by decide +kernel
theorem d_L_law_851 : decode zy_L_law.2.1 851 = .ok (.aload_n 0, 1) := by decide +kernel
theorem d_L_law_852 : decode zy_L_law.2.1 852 = .ok (.iload_n 3, 1) := by decide +kernel
theorem d_L_law_853 : decode zy_L_law.2.1 853 = .ok (.iconst 1, 1) := by decide +kernel
theorem d_L_law_854 : decode zy_L_law.2.1 854 = .ok (.iadd, 1) := by decide +kernel
theorem d_L_law_855 : decode zy_L_law.2.1 855 = .ok (.iaload, 1) := by decide +kernel
theorem d_L_law_856 : decode zy_L_law.2.1 856 = .ok (.aload_n 0, 1) := by decide +kernel
theorem d_L_law_857 : decode zy_L_law.2.1 857 = .ok (.iload_n 3, 1) := by decide +kernel
theorem d_L_law_858 : decode zy_L_law.2.1 858 = .ok (.iconst 2, 1) := by decide +kernel
theorem d_L_law_859 : decode zy_L_law.2.1 859 = .ok (.iadd, 1) := by decide +kernel
theorem d_L_law_860 : decode zy_L_law.2.1 860 = .ok (.iaload, 1) := by decide +kernel
theorem d_L_law_861 : decode zy_L_law.2.1 861 = .ok (.aload_n 0, 1) := by decide +kernel
theorem d_L_law_862 : decode zy_L_law.2.1 862 = .ok (.iload_n 3, 1) := by decide +kernel
theorem d_L_law_863 : decode zy_L_law.2.1 863 = .ok (.iconst 3, 1) := by decide +kernel
theorem d_L_law_864 : decode zy_L_law.2.1 864 = .ok (.iadd, 1) := by decide +kernel
theorem d_L_law_865 : decode zy_L_law.2.1 865 = .ok (.iaload, 1) := by decide +kernel
theorem d_L_law_866 : decode zy_L_law.2.1 866 = .ok (.invokevirtual 121, 3) := by decide +kernel
theorem d_L_law_869 : decode zy_L_law.2.1 869 = .ok (.aload_n 2, 1) := by decide +kernel
theorem d_L_law_870 : decode zy_L_law.2.1 870 = .ok (.aload_n 0, 1) := by decide +kernel
theorem d_L_law_871 : decode zy_L_law.2.1 871 = .ok (.iload_n 3, 1) := by decide +kernel
theorem d_L_law_872 : decode zy_L_law.2.1 872 = .ok (.iconst 1, 1) := by decide +kernel
theorem d_L_law_873 : decode zy_L_law.2.1 873 = .ok (.iadd, 1) := by decide +kernel
theorem d_L_law_874 : decode zy_L_law.2.1 874 = .ok (.iaload, 1) := by decide +kernel
theorem d_L_law_875 : decode zy_L_law.2.1 875 = .ok (.aload_n 0, 1) := by decide +kernel
theorem d_L_law_876 : decode zy_L_law.2.1 876 = .ok (.iload_n 3, 1) := by decide +kernel
theorem d_L_law_877 : decode zy_L_law.2.1 877 = .ok (.iconst 2, 1) := by decide +kernel
theorem d_L_law_878 : decode zy_L_law.2.1 878 = .ok (.iadd, 1) := by decide +kernel
theorem d_L_law_879 : decode zy_L_law.2.1 879 = .ok (.iaload, 1) := by decide +kernel
theorem d_L_law_880 : decode zy_L_law.2.1 880 = .ok (.aload_n 0, 1) := by decide +kernel
theorem d_L_law_881 : decode zy_L_law.2.1 881 = .ok (.iload_n 3, 1) := by decide +kernel
theorem d_L_law_882 : decode zy_L_law.2.1 882 = .ok (.iconst 3, 1) := by decide +kernel
theorem d_L_law_883 : decode zy_L_law.2.1 883 = .ok (.iadd, 1) := by decide +kernel
theorem d_L_law_884 : decode zy_L_law.2.1 884 = .ok (.iaload, 1) := by decide +kernel
theorem d_L_law_885 : decode zy_L_law.2.1 885 = .ok (.invokevirtual 124, 3) := by decide +kernel
theorem d_L_law_888 : decode zy_L_law.2.1 888 = .ok (.if_icmp .eq (154), 3) := by decide +kernel
theorem d_L_law_891 : decode zy_L_law.2.1 891 = .ok (.iconst 0, 1) := by decide +kernel
theorem d_L_law_892 : decode zy_L_law.2.1 892 = .ok (.ireturn, 1) := by decide +kernel
theorem d_L_law_893 : decode zy_L_law.2.1 893 = .ok (.aload_n 1, 1) := by decide +kernel
theorem d_L_law_894 : decode zy_L_law.2.1 894 = .ok (.aload_n 0, 1) := by decide +kernel
theorem d_L_law_895 : decode zy_L_law.2.1 895 = .ok (.iload_n 3, 1) := by decide +kernel
theorem d_L_law_896 : decode zy_L_law.2.1 896 = .ok (.iconst 1, 1) := by decide +kernel
theorem d_L_law_897 : decode zy_L_law.2.1 897 = .ok (.iadd, 1) := by decide +kernel
theorem d_L_law_898 : decode zy_L_law.2.1 898 = .ok (.iaload, 1) := by decide +kernel
theorem d_L_law_899 : decode zy_L_law.2.1 899 = .ok (.aload_n 0, 1) := by decide +kernel
theorem d_L_law_900 : decode zy_L_law.2.1 900 = .ok (.iload_n 3, 1) := by decide +kernel
theorem d_L_law_901 : decode zy_L_law.2.1 901 = .ok (.iconst 2, 1) := by decide +kernel
theorem d_L_law_902 : decode zy_L_law.2.1 902 = .ok (.iadd, 1) := by decide +kernel
theorem d_L_law_903 : decode zy_L_law.2.1 903 = .ok (.iaload, 1) := by decide +kernel
theorem d_L_law_904 : decode zy_L_law.2.1 904 = .ok (.aload_n 0, 1) := by decide +kernel
theorem d_L_law_905 : decode zy_L_law.2.1 905 = .ok (.iload_n 3, 1) := by decide +kernel
theorem d_L_law_906 : decode zy_L_law.2.1 906 = .ok (.iconst 3, 1) := by decide +kernel
theorem d_L_law_907 : decode zy_L_law.2.1 907 = .ok (.iadd, 1) := by decide +kernel
theorem d_L_law_908 : decode zy_L_law.2.1 908 = .ok (.iaload, 1) := by decide +kernel
theorem d_L_law_909 : decode zy_L_law.2.1 909 = .ok (.aload_n 0, 1) := by decide +kernel
theorem d_L_law_910 : decode zy_L_law.2.1 910 = .ok (.iload_n 3, 1) := by decide +kernel
theorem d_L_law_911 : decode zy_L_law.2.1 911 = .ok (.iconst 4, 1) := by decide +kernel
theorem d_L_law_912 : decode zy_L_law.2.1 912 = .ok (.iadd, 1) := by decide +kernel
theorem d_L_law_913 : decode zy_L_law.2.1 913 = .ok (.iaload, 1) := by decide +kernel
theorem d_L_law_914 : decode zy_L_law.2.1 914 = .ok (.aload_n 0, 1) := by decide +kernel
theorem d_L_law_915 : decode zy_L_law.2.1 915 = .ok (.iload_n 3, 1) := by decide +kernel
theorem d_L_law_916 : decode zy_L_law.2.1 916 = .ok (.iconst 5, 1) := by decide +kernel
theorem d_L_law_917 : decode zy_L_law.2.1 917 = .ok (.iadd, 1) := by decide +kernel
theorem d_L_law_918 : decode zy_L_law.2.1 918 = .ok (.iaload, 1) := by decide +kernel
theorem d_L_law_919 : decode zy_L_law.2.1 919 = .ok (.invokevirtual 125, 3) := by decide +kernel
theorem d_L_law_922 : decode zy_L_law.2.1 922 = .ok (.aload_n 2, 1) := by decide +kernel
theorem d_L_law_923 : decode zy_L_law.2.1 923 = .ok (.aload_n 0, 1) := by decide +kernel
theorem d_L_law_924 : decode zy_L_law.2.1 924 = .ok (.iload_n 3, 1) := by decide +kernel
theorem d_L_law_925 : decode zy_L_law.2.1 925 = .ok (.iconst 1, 1) := by decide +kernel
theorem d_L_law_926 : decode zy_L_law.2.1 926 = .ok (.iadd, 1) := by decide +kernel
theorem d_L_law_927 : decode zy_L_law.2.1 927 = .ok (.iaload, 1) := by decide +kernel
theorem d_L_law_928 : decode zy_L_law.2.1 928 = .ok (.aload_n 0, 1) := by decide +kernel
theorem d_L_law_929 : decode zy_L_law.2.1 929 = .ok (.iload_n 3, 1) := by decide +kernel
theorem d_L_law_930 : decode zy_L_law.2.1 930 = .ok (.iconst 2, 1) := by decide +kernel
theorem d_L_law_931 : decode zy_L_law.2.1 931 = .ok (.iadd, 1) := by decide +kernel
theorem d_L_law_932 : decode zy_L_law.2.1 932 = .ok (.iaload, 1) := by decide +kernel
theorem d_L_law_933 : decode zy_L_law.2.1 933 = .ok (.aload_n 0, 1) := by decide +kernel
theorem d_L_law_934 : decode zy_L_law.2.1 934 = .ok (.iload_n 3, 1) := by decide +kernel
theorem d_L_law_935 : decode zy_L_law.2.1 935 = .ok (.iconst 3, 1) := by decide +kernel
theorem d_L_law_936 : decode zy_L_law.2.1 936 = .ok (.iadd, 1) := by decide +kernel
theorem d_L_law_937 : decode zy_L_law.2.1 937 = .ok (.iaload, 1) := by decide +kernel
theorem d_L_law_938 : decode zy_L_law.2.1 938 = .ok (.aload_n 0, 1) := by decide +kernel
theorem d_L_law_939 : decode zy_L_law.2.1 939 = .ok (.iload_n 3, 1) := by decide +kernel
theorem d_L_law_940 : decode zy_L_law.2.1 940 = .ok (.iconst 4, 1) := by decide +kernel
theorem d_L_law_941 : decode zy_L_law.2.1 941 = .ok (.iadd, 1) := by decide +kernel
theorem d_L_law_942 : decode zy_L_law.2.1 942 = .ok (.iaload, 1) := by decide +kernel
theorem d_L_law_943 : decode zy_L_law.2.1 943 = .ok (.aload_n 0, 1) := by decide +kernel
theorem d_L_law_944 : decode zy_L_law.2.1 944 = .ok (.iload_n 3, 1) := by decide +kernel
theorem d_L_law_945 : decode zy_L_law.2.1 945 = .ok (.iconst 5, 1) := by decide +kernel
theorem d_L_law_946 : decode zy_L_law.2.1 946 = .ok (.iadd, 1) := by decide +kernel
theorem d_L_law_947 : decode zy_L_law.2.1 947 = .ok (.iaload, 1) := by decide +kernel
theorem d_L_law_948 : decode zy_L_law.2.1 948 = .ok (.invokevirtual 129, 3) := by decide +kernel
theorem d_L_law_951 : decode zy_L_law.2.1 951 = .ok (.if_icmp .eq (91), 3) := by decide +kernel
theorem d_L_law_954 : decode zy_L_law.2.1 954 = .ok (.iconst 0, 1) := by decide +kernel
theorem d_L_law_955 : decode zy_L_law.2.1 955 = .ok (.ireturn, 1) := by decide +kernel
theorem d_L_law_956 : decode zy_L_law.2.1 956 = .ok (.aload_n 1, 1) := by decide +kernel
theorem d_L_law_957 : decode zy_L_law.2.1 957 = .ok (.aload_n 0, 1) := by decide +kernel
theorem d_L_law_958 : decode zy_L_law.2.1 958 = .ok (.iload_n 3, 1) := by decide +kernel
theorem d_L_law_959 : decode zy_L_law.2.1 959 = .ok (.iconst 1, 1) := by decide +kernel
theorem d_L_law_960 : decode zy_L_law.2.1 960 = .ok (.iadd, 1) := by decide +kernel
theorem d_L_law_961 : decode zy_L_law.2.1 961 = .ok (.iaload, 1) := by decide +kernel
theorem d_L_law_962 : decode zy_L_law.2.1 962 = .ok (.aload_n 0, 1) := by decide +kernel
theorem d_L_law_963 : decode zy_L_law.2.1 963 = .ok (.iload_n 3, 1) := by decide +kernel
theorem d_L_law_964 : decode zy_L_law.2.1 964 = .ok (.iconst 2, 1) := by decide +kernel
theorem d_L_law_965 : decode zy_L_law.2.1 965 = .ok (.iadd, 1) := by decide +kernel
theorem d_L_law_966 : decode zy_L_law.2.1 966 = .ok (.iaload, 1) := by decide +kernel
theorem d_L_law_967 : decode zy_L_law.2.1 967 = .ok (.aload_n 0, 1) := by decide +kernel
theorem d_L_law_968 : decode zy_L_law.2.1 968 = .ok (.iload_n 3, 1) := by decide +kernel
theorem d_L_law_969 : decode zy_L_law.2.1 969 = .ok (.iconst 3, 1) := by decide +kernel
theorem d_L_law_970 : decode zy_L_law.2.1 970 = .ok (.iadd, 1) := by decide +kernel
theorem d_L_law_971 : decode zy_L_law.2.1 971 = .ok (.iaload, 1) := by decide +kernel
theorem d_L_law_972 : decode zy_L_law.2.1 972 = .ok (.aload_n 0, 1) := by decide +kernel
theorem d_L_law_973 : decode zy_L_law.2.1 973 = .ok (.iload_n 3, 1) := by decide +kernel
theorem d_L_law_974 : decode zy_L_law.2.1 974 = .ok (.iconst 4, 1) := by decide +kernel
theorem d_L_law_975 : decode zy_L_law.2.1 975 = .ok (.iadd, 1) := by decide +kernel
theorem d_L_law_976 : decode zy_L_law.2.1 976 = .ok (.iaload, 1) := by decide +kernel
theorem d_L_law_977 : decode zy_L_law.2.1 977 = .ok (.invokevirtual 130, 3) := by decide +kernel
theorem d_L_law_980 : decode zy_L_law.2.1 980 = .ok (.aload_n 2, 1) := by decide +kernel
theorem d_L_law_981 : decode zy_L_law.2.1 981 = .ok (.aload_n 0, 1) := by decide +kernel
theorem d_L_law_982 : decode zy_L_law.2.1 982 = .ok (.iload_n 3, 1) := by decide +kernel
theorem d_L_law_983 : decode zy_L_law.2.1 983 = .ok (.iconst 1, 1) := by decide +kernel
theorem d_L_law_984 : decode zy_L_law.2.1 984 = .ok (.iadd, 1) := by decide +kernel
theorem d_L_law_985 : decode zy_L_law.2.1 985 = .ok (.iaload, 1) := by decide +kernel
theorem d_L_law_986 : decode zy_L_law.2.1 986 = .ok (.aload_n 0, 1) := by decide +kernel
theorem d_L_law_987 : decode zy_L_law.2.1 987 = .ok (.iload_n 3, 1) := by decide +kernel
theorem d_L_law_988 : decode zy_L_law.2.1 988 = .ok (.iconst 2, 1) := by decide +kernel
theorem d_L_law_989 : decode zy_L_law.2.1 989 = .ok (.iadd, 1) := by decide +kernel
theorem d_L_law_990 : decode zy_L_law.2.1 990 = .ok (.iaload, 1) := by decide +kernel
theorem d_L_law_991 : decode zy_L_law.2.1 991 = .ok (.aload_n 0, 1) := by decide +kernel
theorem d_L_law_992 : decode zy_L_law.2.1 992 = .ok (.iload_n 3, 1) := by decide +kernel
theorem d_L_law_993 : decode zy_L_law.2.1 993 = .ok (.iconst 3, 1) := by decide +kernel
theorem d_L_law_994 : decode zy_L_law.2.1 994 = .ok (.iadd, 1) := by decide +kernel
theorem d_L_law_995 : decode zy_L_law.2.1 995 = .ok (.iaload, 1) := by decide +kernel
theorem d_L_law_996 : decode zy_L_law.2.1 996 = .ok (.aload_n 0, 1) := by decide +kernel
theorem d_L_law_997 : decode zy_L_law.2.1 997 = .ok (.iload_n 3, 1) := by decide +kernel
theorem d_L_law_998 : decode zy_L_law.2.1 998 = .ok (.iconst 4, 1) := by decide +kernel
theorem d_L_law_999 : decode zy_L_law.2.1 999 = .ok (.iadd, 1) := by decide +kernel
theorem d_L_law_1000 : decode zy_L_law.2.1 1000 = .ok (.iaload, 1) := by decide +kernel
theorem d_L_law_1001 : decode zy_L_law.2.1 1001 = .ok (.invokevirtual 134, 3) := by decide +kernel
theorem d_L_law_1004 : decode zy_L_law.2.1 1004 = .ok (.if_icmp .eq (38), 3) := by decide +kernel
theorem d_L_law_1007 : decode zy_L_law.2.1 1007 = .ok (.iconst 0, 1) := by decide +kernel
theorem d_L_law_1008 : decode zy_L_law.2.1 1008 = .ok (.ireturn, 1) := by decide +kernel
theorem d_L_law_1009 : decode zy_L_law.2.1 1009 = .ok (.aload_n 1, 1) := by decide +kernel
theorem d_L_law_1010 : decode zy_L_law.2.1 1010 = .ok (.aload_n 0, 1) := by decide +kernel
theorem d_L_law_1011 : decode zy_L_law.2.1 1011 = .ok (.iload_n 3, 1) := by decide +kernel
theorem d_L_law_1012 : decode zy_L_law.2.1 1012 = .ok (.iconst 1, 1) := by decide +kernel
theorem d_L_law_1013 : decode zy_L_law.2.1 1013 = .ok (.iadd, 1) := by decide +kernel
theorem d_L_law_1014 : decode zy_L_law.2.1 1014 = .ok (.iaload, 1) := by decide +kernel
theorem d_L_law_1015 : decode zy_L_law.2.1 1015 = .ok (.aload_n 0, 1) := by decide +kernel
theorem d_L_law_1016 : decode zy_L_law.2.1 1016 = .ok (.iload_n 3, 1) := by decide +kernel
theorem d_L_law_1017 : decode zy_L_law.2.1 1017 = .ok (.iconst 2, 1) := by decide +kernel
theorem d_L_law_1018 : decode zy_L_law.2.1 1018 = .ok (.iadd, 1) := by decide +kernel
theorem d_L_law_1019 : decode zy_L_law.2.1 1019 = .ok (.iaload, 1) := by decide +kernel
theorem d_L_law_1020 : decode zy_L_law.2.1 1020 = .ok (.invokevirtual 135, 3) := by decide +kernel
theorem d_L_law_1023 : decode zy_L_law.2.1 1023 = .ok (.aload_n 2, 1) := by decide +kernel
theorem d_L_law_1024 : decode zy_L_law.2.1 1024 = .ok (.aload_n 0, 1) := by decide +kernel
theorem d_L_law_1025 : decode zy_L_law.2.1 1025 = .ok (.iload_n 3, 1) := by decide +kernel
theorem d_L_law_1026 : decode zy_L_law.2.1 1026 = .ok (.iconst 1, 1) := by decide +kernel
theorem d_L_law_1027 : decode zy_L_law.2.1 1027 = .ok (.iadd, 1) := by decide +kernel
theorem d_L_law_1028 : decode zy_L_law.2.1 1028 = .ok (.iaload, 1) := by decide +kernel
theorem d_L_law_1029 : decode zy_L_law.2.1 1029 = .ok (.aload_n 0, 1) := by decide +kernel
theorem d_L_law_1030 : decode zy_L_law.2.1 1030 = .ok (.iload_n 3, 1) := by decide +kernel
theorem d_L_law_1031 : decode zy_L_law.2.1 1031 = .ok (.iconst 2, 1) := by decide +kernel
theorem d_L_law_1032 : decode zy_L_law.2.1 1032 = .ok (.iadd, 1) := by decide +kernel
theorem d_L_law_1033 : decode zy_L_law.2.1 1033 = .ok (.iaload, 1) := by decide +kernel
theorem d_L_law_1034 : decode zy_L_law.2.1 1034 = .ok (.invokevirtual 138, 3) := by decide +kernel
theorem d_L_law_1037 : decode zy_L_law.2.1 1037 = .ok (.if_icmp .eq (5), 3) := by decide +kernel
theorem d_L_law_1040 : decode zy_L_law.2.1 1040 = .ok (.iconst 0, 1) := by decide +kernel
theorem d_L_law_1041 : decode zy_L_law.2.1 1041 = .ok (.ireturn, 1) := by decide +kernel
theorem d_L_law_1042 : decode zy_L_law.2.1 1042 = .ok (.iinc 3 6, 3) := by decide +kernel
theorem d_L_law_1045 : decode zy_L_law.2.1 1045 = .ok (.goto (-1027), 3) := by decide +kernel
theorem d_L_law_1048 : decode zy_L_law.2.1 1048 = .ok (.iconst 1, 1) := by decide +kernel
theorem d_L_law_1049 : decode zy_L_law.2.1 1049 = .ok (.ireturn, 1) := by decide +kernel
