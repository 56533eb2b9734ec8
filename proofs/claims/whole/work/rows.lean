section
-- ===== PART A: goes FIRST, ahead of the names: the tables' words, and 'selects' of the private methods out of them =====
/-- a private method of a class that the tables say can be made, by its rows of tables_1 -/
def lw_okq (q : MethodName × Nat) : Prop := (q.1.cls ≠ "java/lang/invoke/MethodHandle" ∧ q.1.cls ≠ "java/lang/invoke/VarHandle") ∧ Cond.instantiable q.1.cls q.2 ∈ tables_1 ∧ Cond.privateMethod q.1 ∈ tables_1 ∧ Cond.instanceMethod q.1 ∈ tables_1
theorem lw_p0 : lw_okq (⟨"PostsFilled$Reader", "advance", "()V"⟩, 8) := ⟨⟨by decide +kernel, by decide +kernel⟩, List.mem_of_getElem? (i := 219) (by decide +kernel), List.mem_of_getElem? (i := 312) (by decide +kernel), List.mem_of_getElem? (i := 313) (by decide +kernel)⟩
theorem lw_p1 : lw_okq (⟨"PostsFilled$Reader", "takeWord", "()V"⟩, 8) := ⟨⟨by decide +kernel, by decide +kernel⟩, List.mem_of_getElem? (i := 219) (by decide +kernel), List.mem_of_getElem? (i := 319) (by decide +kernel), List.mem_of_getElem? (i := 320) (by decide +kernel)⟩
theorem lw_p2 : lw_okq (⟨"PostsFilled$Reader", "wordBetween", "(II)I"⟩, 8) := ⟨⟨by decide +kernel, by decide +kernel⟩, List.mem_of_getElem? (i := 219) (by decide +kernel), List.mem_of_getElem? (i := 323) (by decide +kernel), List.mem_of_getElem? (i := 324) (by decide +kernel)⟩
theorem lw_p3 : lw_okq (⟨"PostsFilled$Reader", "takeNumber", "()V"⟩, 8) := ⟨⟨by decide +kernel, by decide +kernel⟩, List.mem_of_getElem? (i := 219) (by decide +kernel), List.mem_of_getElem? (i := 333) (by decide +kernel), List.mem_of_getElem? (i := 334) (by decide +kernel)⟩
theorem lw_p4 : lw_okq (⟨"PostsFilled$Reader", "expect", "(I)V"⟩, 8) := ⟨⟨by decide +kernel, by decide +kernel⟩, List.mem_of_getElem? (i := 219) (by decide +kernel), List.mem_of_getElem? (i := 340) (by decide +kernel), List.mem_of_getElem? (i := 341) (by decide +kernel)⟩
theorem lw_p5 : lw_okq (⟨"PostsFilled$Reader", "refuse", "()V"⟩, 8) := ⟨⟨by decide +kernel, by decide +kernel⟩, List.mem_of_getElem? (i := 219) (by decide +kernel), List.mem_of_getElem? (i := 344) (by decide +kernel), List.mem_of_getElem? (i := 345) (by decide +kernel)⟩
theorem lw_p6 : lw_okq (⟨"PostsFilled$Reader", "readOr", "(I)V"⟩, 8) := ⟨⟨by decide +kernel, by decide +kernel⟩, List.mem_of_getElem? (i := 219) (by decide +kernel), List.mem_of_getElem? (i := 348) (by decide +kernel), List.mem_of_getElem? (i := 349) (by decide +kernel)⟩
theorem lw_p7 : lw_okq (⟨"PostsFilled$Reader", "readAnd", "(I)V"⟩, 8) := ⟨⟨by decide +kernel, by decide +kernel⟩, List.mem_of_getElem? (i := 219) (by decide +kernel), List.mem_of_getElem? (i := 352) (by decide +kernel), List.mem_of_getElem? (i := 353) (by decide +kernel)⟩
theorem lw_p8 : lw_okq (⟨"PostsFilled$Reader", "readNot", "(I)V"⟩, 8) := ⟨⟨by decide +kernel, by decide +kernel⟩, List.mem_of_getElem? (i := 219) (by decide +kernel), List.mem_of_getElem? (i := 356) (by decide +kernel), List.mem_of_getElem? (i := 357) (by decide +kernel)⟩
theorem lw_p9 : lw_okq (⟨"PostsFilled$Reader", "opens", "(I)Z"⟩, 8) := ⟨⟨by decide +kernel, by decide +kernel⟩, List.mem_of_getElem? (i := 219) (by decide +kernel), List.mem_of_getElem? (i := 360) (by decide +kernel), List.mem_of_getElem? (i := 361) (by decide +kernel)⟩
theorem lw_p10 : lw_okq (⟨"PostsFilled$Reader", "readSum", "(I)V"⟩, 8) := ⟨⟨by decide +kernel, by decide +kernel⟩, List.mem_of_getElem? (i := 219) (by decide +kernel), List.mem_of_getElem? (i := 368) (by decide +kernel), List.mem_of_getElem? (i := 369) (by decide +kernel)⟩
theorem lw_p11 : lw_okq (⟨"PostsFilled$Reader", "readTerm", "(I)V"⟩, 8) := ⟨⟨by decide +kernel, by decide +kernel⟩, List.mem_of_getElem? (i := 219) (by decide +kernel), List.mem_of_getElem? (i := 372) (by decide +kernel), List.mem_of_getElem? (i := 373) (by decide +kernel)⟩
theorem lw_p12 : lw_okq (⟨"PostsFilled$Reader", "readOne", "(I)V"⟩, 8) := ⟨⟨by decide +kernel, by decide +kernel⟩, List.mem_of_getElem? (i := 219) (by decide +kernel), List.mem_of_getElem? (i := 376) (by decide +kernel), List.mem_of_getElem? (i := 377) (by decide +kernel)⟩
theorem lw_p13 : lw_okq (⟨"PostsFilled", "hire", "(II)I"⟩, 16) := ⟨⟨by decide +kernel, by decide +kernel⟩, List.mem_of_getElem? (i := 20) (by decide +kernel), List.mem_of_getElem? (i := 449) (by decide +kernel), List.mem_of_getElem? (i := 450) (by decide +kernel)⟩
theorem lw_p14 : lw_okq (⟨"PostsFilled", "isPerson", "(I)Z"⟩, 16) := ⟨⟨by decide +kernel, by decide +kernel⟩, List.mem_of_getElem? (i := 20) (by decide +kernel), List.mem_of_getElem? (i := 469) (by decide +kernel), List.mem_of_getElem? (i := 470) (by decide +kernel)⟩
theorem lw_p15 : lw_okq (⟨"PostsFilled", "wellOf", "(LPostsFilled$Person;I)I"⟩, 16) := ⟨⟨by decide +kernel, by decide +kernel⟩, List.mem_of_getElem? (i := 20) (by decide +kernel), List.mem_of_getElem? (i := 528) (by decide +kernel), List.mem_of_getElem? (i := 529) (by decide +kernel)⟩
def lw_privs_1 : List (MethodName × Nat) := [(⟨"PostsFilled$Reader", "advance", "()V"⟩, 8), (⟨"PostsFilled$Reader", "takeWord", "()V"⟩, 8), (⟨"PostsFilled$Reader", "wordBetween", "(II)I"⟩, 8), (⟨"PostsFilled$Reader", "takeNumber", "()V"⟩, 8), (⟨"PostsFilled$Reader", "expect", "(I)V"⟩, 8), (⟨"PostsFilled$Reader", "refuse", "()V"⟩, 8), (⟨"PostsFilled$Reader", "readOr", "(I)V"⟩, 8), (⟨"PostsFilled$Reader", "readAnd", "(I)V"⟩, 8), (⟨"PostsFilled$Reader", "readNot", "(I)V"⟩, 8), (⟨"PostsFilled$Reader", "opens", "(I)Z"⟩, 8), (⟨"PostsFilled$Reader", "readSum", "(I)V"⟩, 8), (⟨"PostsFilled$Reader", "readTerm", "(I)V"⟩, 8), (⟨"PostsFilled$Reader", "readOne", "(I)V"⟩, 8), (⟨"PostsFilled", "hire", "(II)I"⟩, 16), (⟨"PostsFilled", "isPerson", "(I)Z"⟩, 16), (⟨"PostsFilled", "wellOf", "(LPostsFilled$Person;I)I"⟩, 16)]
theorem lw_r1 : ∀ q ∈ lw_privs_1, lw_okq q := List.forall_mem_cons.mpr ⟨lw_p0, List.forall_mem_cons.mpr ⟨lw_p1, List.forall_mem_cons.mpr ⟨lw_p2, List.forall_mem_cons.mpr ⟨lw_p3, List.forall_mem_cons.mpr ⟨lw_p4, List.forall_mem_cons.mpr ⟨lw_p5, List.forall_mem_cons.mpr ⟨lw_p6, List.forall_mem_cons.mpr ⟨lw_p7, List.forall_mem_cons.mpr ⟨lw_p8, List.forall_mem_cons.mpr ⟨lw_p9, List.forall_mem_cons.mpr ⟨lw_p10, List.forall_mem_cons.mpr ⟨lw_p11, List.forall_mem_cons.mpr ⟨lw_p12, List.forall_mem_cons.mpr ⟨lw_p13, List.forall_mem_cons.mpr ⟨lw_p14, List.forall_mem_cons.mpr ⟨lw_p15, fun _ h => absurd h List.not_mem_nil⟩⟩⟩⟩⟩⟩⟩⟩⟩⟩⟩⟩⟩⟩⟩⟩
theorem lw_p16 : lw_okq (⟨"PostsFilled", "valueOf", "(ILPostsFilled$Person;I)I"⟩, 16) := ⟨⟨by decide +kernel, by decide +kernel⟩, List.mem_of_getElem? (i := 20) (by decide +kernel), List.mem_of_getElem? (i := 532) (by decide +kernel), List.mem_of_getElem? (i := 533) (by decide +kernel)⟩
theorem lw_p17 : lw_okq (⟨"PostsFilled", "costOf", "(LPostsFilled$Person;I)I"⟩, 16) := ⟨⟨by decide +kernel, by decide +kernel⟩, List.mem_of_getElem? (i := 20) (by decide +kernel), List.mem_of_getElem? (i := 562) (by decide +kernel), List.mem_of_getElem? (i := 563) (by decide +kernel)⟩
theorem lw_p18 : lw_okq (⟨"PostsFilled", "isCrewSet", "(I)Z"⟩, 16) := ⟨⟨by decide +kernel, by decide +kernel⟩, List.mem_of_getElem? (i := 20) (by decide +kernel), List.mem_of_getElem? (i := 582) (by decide +kernel), List.mem_of_getElem? (i := 583) (by decide +kernel)⟩
theorem lw_p19 : lw_okq (⟨"PostsFilled", "everyone", "()I"⟩, 16) := ⟨⟨by decide +kernel, by decide +kernel⟩, List.mem_of_getElem? (i := 20) (by decide +kernel), List.mem_of_getElem? (i := 586) (by decide +kernel), List.mem_of_getElem? (i := 587) (by decide +kernel)⟩
theorem lw_p20 : lw_okq (⟨"PostsFilled", "planWithout", "(I)I"⟩, 16) := ⟨⟨by decide +kernel, by decide +kernel⟩, List.mem_of_getElem? (i := 20) (by decide +kernel), List.mem_of_getElem? (i := 590) (by decide +kernel), List.mem_of_getElem? (i := 591) (by decide +kernel)⟩
theorem lw_p21 : lw_okq (⟨"PostsFilled", "lookAtGains", "(I)V"⟩, 16) := ⟨⟨by decide +kernel, by decide +kernel⟩, List.mem_of_getElem? (i := 20) (by decide +kernel), List.mem_of_getElem? (i := 594) (by decide +kernel), List.mem_of_getElem? (i := 595) (by decide +kernel)⟩
theorem lw_p22 : lw_okq (⟨"PostsFilled$Plan", "most", "(II)I"⟩, 5) := ⟨⟨by decide +kernel, by decide +kernel⟩, List.mem_of_getElem? (i := 77) (by decide +kernel), List.mem_of_getElem? (i := 608) (by decide +kernel), List.mem_of_getElem? (i := 609) (by decide +kernel)⟩
theorem lw_p23 : lw_okq (⟨"PostsFilled$Plan", "worthWith", "(III)I"⟩, 5) := ⟨⟨by decide +kernel, by decide +kernel⟩, List.mem_of_getElem? (i := 77) (by decide +kernel), List.mem_of_getElem? (i := 612) (by decide +kernel), List.mem_of_getElem? (i := 613) (by decide +kernel)⟩
theorem lw_p24 : lw_okq (⟨"PostsFilled$Plan", "firstAt", "(II)I"⟩, 5) := ⟨⟨by decide +kernel, by decide +kernel⟩, List.mem_of_getElem? (i := 77) (by decide +kernel), List.mem_of_getElem? (i := 621) (by decide +kernel), List.mem_of_getElem? (i := 622) (by decide +kernel)⟩
theorem lw_p25 : lw_okq (⟨"PostsFilled", "lookWhoCan", "()V"⟩, 16) := ⟨⟨by decide +kernel, by decide +kernel⟩, List.mem_of_getElem? (i := 20) (by decide +kernel), List.mem_of_getElem? (i := 629) (by decide +kernel), List.mem_of_getElem? (i := 630) (by decide +kernel)⟩
theorem lw_p26 : lw_okq (⟨"PostsFilled", "firstThatBreaks", "(I)I"⟩, 16) := ⟨⟨by decide +kernel, by decide +kernel⟩, List.mem_of_getElem? (i := 20) (by decide +kernel), List.mem_of_getElem? (i := 658) (by decide +kernel), List.mem_of_getElem? (i := 659) (by decide +kernel)⟩
theorem lw_p27 : lw_okq (⟨"PostsFilled", "poorestThatFills", "(I)I"⟩, 16) := ⟨⟨by decide +kernel, by decide +kernel⟩, List.mem_of_getElem? (i := 20) (by decide +kernel), List.mem_of_getElem? (i := 663) (by decide +kernel), List.mem_of_getElem? (i := 664) (by decide +kernel)⟩
theorem lw_p28 : lw_okq (⟨"PostsFilled", "offerLessons", "()V"⟩, 16) := ⟨⟨by decide +kernel, by decide +kernel⟩, List.mem_of_getElem? (i := 20) (by decide +kernel), List.mem_of_getElem? (i := 675) (by decide +kernel), List.mem_of_getElem? (i := 676) (by decide +kernel)⟩
theorem lw_p29 : lw_okq (⟨"PostsFilled$Course", "seekOne", "(J)V"⟩, 7) := ⟨⟨by decide +kernel, by decide +kernel⟩, List.mem_of_getElem? (i := 104) (by decide +kernel), List.mem_of_getElem? (i := 692) (by decide +kernel), List.mem_of_getElem? (i := 693) (by decide +kernel)⟩
theorem lw_p30 : lw_okq (⟨"PostsFilled$Course", "keepCheaper", "(III)V"⟩, 7) := ⟨⟨by decide +kernel, by decide +kernel⟩, List.mem_of_getElem? (i := 104) (by decide +kernel), List.mem_of_getElem? (i := 697) (by decide +kernel), List.mem_of_getElem? (i := 698) (by decide +kernel)⟩
theorem lw_p31 : lw_okq (⟨"PostsFilled$Course", "seekTwo", "(JJ)V"⟩, 7) := ⟨⟨by decide +kernel, by decide +kernel⟩, List.mem_of_getElem? (i := 104) (by decide +kernel), List.mem_of_getElem? (i := 701) (by decide +kernel), List.mem_of_getElem? (i := 702) (by decide +kernel)⟩
def lw_privs_2 : List (MethodName × Nat) := [(⟨"PostsFilled", "valueOf", "(ILPostsFilled$Person;I)I"⟩, 16), (⟨"PostsFilled", "costOf", "(LPostsFilled$Person;I)I"⟩, 16), (⟨"PostsFilled", "isCrewSet", "(I)Z"⟩, 16), (⟨"PostsFilled", "everyone", "()I"⟩, 16), (⟨"PostsFilled", "planWithout", "(I)I"⟩, 16), (⟨"PostsFilled", "lookAtGains", "(I)V"⟩, 16), (⟨"PostsFilled$Plan", "most", "(II)I"⟩, 5), (⟨"PostsFilled$Plan", "worthWith", "(III)I"⟩, 5), (⟨"PostsFilled$Plan", "firstAt", "(II)I"⟩, 5), (⟨"PostsFilled", "lookWhoCan", "()V"⟩, 16), (⟨"PostsFilled", "firstThatBreaks", "(I)I"⟩, 16), (⟨"PostsFilled", "poorestThatFills", "(I)I"⟩, 16), (⟨"PostsFilled", "offerLessons", "()V"⟩, 16), (⟨"PostsFilled$Course", "seekOne", "(J)V"⟩, 7), (⟨"PostsFilled$Course", "keepCheaper", "(III)V"⟩, 7), (⟨"PostsFilled$Course", "seekTwo", "(JJ)V"⟩, 7)]
theorem lw_r2 : ∀ q ∈ lw_privs_2, lw_okq q := List.forall_mem_cons.mpr ⟨lw_p16, List.forall_mem_cons.mpr ⟨lw_p17, List.forall_mem_cons.mpr ⟨lw_p18, List.forall_mem_cons.mpr ⟨lw_p19, List.forall_mem_cons.mpr ⟨lw_p20, List.forall_mem_cons.mpr ⟨lw_p21, List.forall_mem_cons.mpr ⟨lw_p22, List.forall_mem_cons.mpr ⟨lw_p23, List.forall_mem_cons.mpr ⟨lw_p24, List.forall_mem_cons.mpr ⟨lw_p25, List.forall_mem_cons.mpr ⟨lw_p26, List.forall_mem_cons.mpr ⟨lw_p27, List.forall_mem_cons.mpr ⟨lw_p28, List.forall_mem_cons.mpr ⟨lw_p29, List.forall_mem_cons.mpr ⟨lw_p30, List.forall_mem_cons.mpr ⟨lw_p31, fun _ h => absurd h List.not_mem_nil⟩⟩⟩⟩⟩⟩⟩⟩⟩⟩⟩⟩⟩⟩⟩⟩
theorem lw_p32 : lw_okq (⟨"PostsFilled", "tenthsOf", "(I)J"⟩, 16) := ⟨⟨by decide +kernel, by decide +kernel⟩, List.mem_of_getElem? (i := 20) (by decide +kernel), List.mem_of_getElem? (i := 715) (by decide +kernel), List.mem_of_getElem? (i := 716) (by decide +kernel)⟩
theorem lw_p33 : lw_okq (⟨"PostsFilled", "wages", "(LPostsFilled$Person;)I"⟩, 16) := ⟨⟨by decide +kernel, by decide +kernel⟩, List.mem_of_getElem? (i := 20) (by decide +kernel), List.mem_of_getElem? (i := 738) (by decide +kernel), List.mem_of_getElem? (i := 739) (by decide +kernel)⟩
theorem lw_p34 : lw_okq (⟨"PostsFilled", "wrongAt", "(III)I"⟩, 16) := ⟨⟨by decide +kernel, by decide +kernel⟩, List.mem_of_getElem? (i := 20) (by decide +kernel), List.mem_of_getElem? (i := 759) (by decide +kernel), List.mem_of_getElem? (i := 760) (by decide +kernel)⟩
theorem lw_p35 : lw_okq (⟨"PostsFilled", "lessonsOfAll", "()I"⟩, 16) := ⟨⟨by decide +kernel, by decide +kernel⟩, List.mem_of_getElem? (i := 20) (by decide +kernel), List.mem_of_getElem? (i := 787) (by decide +kernel), List.mem_of_getElem? (i := 788) (by decide +kernel)⟩
theorem lw_p36 : lw_okq (⟨"PostsFilledModel", "isOne", "(II)Z"⟩, 53) := ⟨⟨by decide +kernel, by decide +kernel⟩, List.mem_of_getElem? (i := 831) (by decide +kernel), List.mem_of_getElem? (i := 1010) (by decide +kernel), List.mem_of_getElem? (i := 1011) (by decide +kernel)⟩
theorem lw_p37 : lw_okq (⟨"PostsFilledModel", "isPost", "(I)Z"⟩, 53) := ⟨⟨by decide +kernel, by decide +kernel⟩, List.mem_of_getElem? (i := 831) (by decide +kernel), List.mem_of_getElem? (i := 1015) (by decide +kernel), List.mem_of_getElem? (i := 1016) (by decide +kernel)⟩
theorem lw_p38 : lw_okq (⟨"PostsFilledModel", "isPerson", "(I)Z"⟩, 53) := ⟨⟨by decide +kernel, by decide +kernel⟩, List.mem_of_getElem? (i := 831) (by decide +kernel), List.mem_of_getElem? (i := 1028) (by decide +kernel), List.mem_of_getElem? (i := 1029) (by decide +kernel)⟩
theorem lw_p39 : lw_okq (⟨"PostsFilledModel", "taughtMany", "(I)I"⟩, 53) := ⟨⟨by decide +kernel, by decide +kernel⟩, List.mem_of_getElem? (i := 831) (by decide +kernel), List.mem_of_getElem? (i := 1032) (by decide +kernel), List.mem_of_getElem? (i := 1033) (by decide +kernel)⟩
theorem lw_p40 : lw_okq (⟨"PostsFilledModel", "keeps", "(I)I"⟩, 53) := ⟨⟨by decide +kernel, by decide +kernel⟩, List.mem_of_getElem? (i := 831) (by decide +kernel), List.mem_of_getElem? (i := 1044) (by decide +kernel), List.mem_of_getElem? (i := 1045) (by decide +kernel)⟩
theorem lw_p41 : lw_okq (⟨"PostsFilledModel", "countsOf", "(I)I"⟩, 53) := ⟨⟨by decide +kernel, by decide +kernel⟩, List.mem_of_getElem? (i := 831) (by decide +kernel), List.mem_of_getElem? (i := 1048) (by decide +kernel), List.mem_of_getElem? (i := 1049) (by decide +kernel)⟩
theorem lw_p42 : lw_okq (⟨"PostsFilledModel", "canDo", "(II)Z"⟩, 53) := ⟨⟨by decide +kernel, by decide +kernel⟩, List.mem_of_getElem? (i := 831) (by decide +kernel), List.mem_of_getElem? (i := 1052) (by decide +kernel), List.mem_of_getElem? (i := 1053) (by decide +kernel)⟩
theorem lw_p43 : lw_okq (⟨"PostsFilledModel", "yearsOf", "(II)I"⟩, 53) := ⟨⟨by decide +kernel, by decide +kernel⟩, List.mem_of_getElem? (i := 831) (by decide +kernel), List.mem_of_getElem? (i := 1056) (by decide +kernel), List.mem_of_getElem? (i := 1057) (by decide +kernel)⟩
theorem lw_p44 : lw_okq (⟨"PostsFilledModel", "wellOf", "(II)I"⟩, 53) := ⟨⟨by decide +kernel, by decide +kernel⟩, List.mem_of_getElem? (i := 831) (by decide +kernel), List.mem_of_getElem? (i := 1060) (by decide +kernel), List.mem_of_getElem? (i := 1061) (by decide +kernel)⟩
theorem lw_p45 : lw_okq (⟨"PostsFilledModel", "says", "(III)I"⟩, 53) := ⟨⟨by decide +kernel, by decide +kernel⟩, List.mem_of_getElem? (i := 831) (by decide +kernel), List.mem_of_getElem? (i := 1064) (by decide +kernel), List.mem_of_getElem? (i := 1065) (by decide +kernel)⟩
theorem lw_p46 : lw_okq (⟨"PostsFilledModel", "costOf", "(II)I"⟩, 53) := ⟨⟨by decide +kernel, by decide +kernel⟩, List.mem_of_getElem? (i := 831) (by decide +kernel), List.mem_of_getElem? (i := 1074) (by decide +kernel), List.mem_of_getElem? (i := 1075) (by decide +kernel)⟩
theorem lw_p47 : lw_okq (⟨"PostsFilledModel", "next", "()V"⟩, 53) := ⟨⟨by decide +kernel, by decide +kernel⟩, List.mem_of_getElem? (i := 831) (by decide +kernel), List.mem_of_getElem? (i := 1088) (by decide +kernel), List.mem_of_getElem? (i := 1089) (by decide +kernel)⟩
def lw_privs_3 : List (MethodName × Nat) := [(⟨"PostsFilled", "tenthsOf", "(I)J"⟩, 16), (⟨"PostsFilled", "wages", "(LPostsFilled$Person;)I"⟩, 16), (⟨"PostsFilled", "wrongAt", "(III)I"⟩, 16), (⟨"PostsFilled", "lessonsOfAll", "()I"⟩, 16), (⟨"PostsFilledModel", "isOne", "(II)Z"⟩, 53), (⟨"PostsFilledModel", "isPost", "(I)Z"⟩, 53), (⟨"PostsFilledModel", "isPerson", "(I)Z"⟩, 53), (⟨"PostsFilledModel", "taughtMany", "(I)I"⟩, 53), (⟨"PostsFilledModel", "keeps", "(I)I"⟩, 53), (⟨"PostsFilledModel", "countsOf", "(I)I"⟩, 53), (⟨"PostsFilledModel", "canDo", "(II)Z"⟩, 53), (⟨"PostsFilledModel", "yearsOf", "(II)I"⟩, 53), (⟨"PostsFilledModel", "wellOf", "(II)I"⟩, 53), (⟨"PostsFilledModel", "says", "(III)I"⟩, 53), (⟨"PostsFilledModel", "costOf", "(II)I"⟩, 53), (⟨"PostsFilledModel", "next", "()V"⟩, 53)]
theorem lw_r3 : ∀ q ∈ lw_privs_3, lw_okq q := List.forall_mem_cons.mpr ⟨lw_p32, List.forall_mem_cons.mpr ⟨lw_p33, List.forall_mem_cons.mpr ⟨lw_p34, List.forall_mem_cons.mpr ⟨lw_p35, List.forall_mem_cons.mpr ⟨lw_p36, List.forall_mem_cons.mpr ⟨lw_p37, List.forall_mem_cons.mpr ⟨lw_p38, List.forall_mem_cons.mpr ⟨lw_p39, List.forall_mem_cons.mpr ⟨lw_p40, List.forall_mem_cons.mpr ⟨lw_p41, List.forall_mem_cons.mpr ⟨lw_p42, List.forall_mem_cons.mpr ⟨lw_p43, List.forall_mem_cons.mpr ⟨lw_p44, List.forall_mem_cons.mpr ⟨lw_p45, List.forall_mem_cons.mpr ⟨lw_p46, List.forall_mem_cons.mpr ⟨lw_p47, fun _ h => absurd h List.not_mem_nil⟩⟩⟩⟩⟩⟩⟩⟩⟩⟩⟩⟩⟩⟩⟩⟩
theorem lw_p48 : lw_okq (⟨"PostsFilledModel", "byteAt", "(I)I"⟩, 53) := ⟨⟨by decide +kernel, by decide +kernel⟩, List.mem_of_getElem? (i := 831) (by decide +kernel), List.mem_of_getElem? (i := 1092) (by decide +kernel), List.mem_of_getElem? (i := 1093) (by decide +kernel)⟩
theorem lw_p49 : lw_okq (⟨"PostsFilledModel", "wordOf", "()I"⟩, 53) := ⟨⟨by decide +kernel, by decide +kernel⟩, List.mem_of_getElem? (i := 831) (by decide +kernel), List.mem_of_getElem? (i := 1101) (by decide +kernel), List.mem_of_getElem? (i := 1102) (by decide +kernel)⟩
theorem lw_p50 : lw_okq (⟨"PostsFilledModel", "isKey", "(I)Z"⟩, 53) := ⟨⟨by decide +kernel, by decide +kernel⟩, List.mem_of_getElem? (i := 831) (by decide +kernel), List.mem_of_getElem? (i := 1113) (by decide +kernel), List.mem_of_getElem? (i := 1114) (by decide +kernel)⟩
theorem lw_p51 : lw_okq (⟨"PostsFilledModel", "wrong", "()V"⟩, 53) := ⟨⟨by decide +kernel, by decide +kernel⟩, List.mem_of_getElem? (i := 831) (by decide +kernel), List.mem_of_getElem? (i := 1117) (by decide +kernel), List.mem_of_getElem? (i := 1118) (by decide +kernel)⟩
theorem lw_p52 : lw_okq (⟨"PostsFilledModel", "either", "()V"⟩, 53) := ⟨⟨by decide +kernel, by decide +kernel⟩, List.mem_of_getElem? (i := 831) (by decide +kernel), List.mem_of_getElem? (i := 1121) (by decide +kernel), List.mem_of_getElem? (i := 1122) (by decide +kernel)⟩
theorem lw_p53 : lw_okq (⟨"PostsFilledModel", "both", "()V"⟩, 53) := ⟨⟨by decide +kernel, by decide +kernel⟩, List.mem_of_getElem? (i := 831) (by decide +kernel), List.mem_of_getElem? (i := 1125) (by decide +kernel), List.mem_of_getElem? (i := 1126) (by decide +kernel)⟩
theorem lw_p54 : lw_okq (⟨"PostsFilledModel", "not", "()V"⟩, 53) := ⟨⟨by decide +kernel, by decide +kernel⟩, List.mem_of_getElem? (i := 831) (by decide +kernel), List.mem_of_getElem? (i := 1129) (by decide +kernel), List.mem_of_getElem? (i := 1130) (by decide +kernel)⟩
theorem lw_p55 : lw_okq (⟨"PostsFilledModel", "opens", "()Z"⟩, 53) := ⟨⟨by decide +kernel, by decide +kernel⟩, List.mem_of_getElem? (i := 831) (by decide +kernel), List.mem_of_getElem? (i := 1133) (by decide +kernel), List.mem_of_getElem? (i := 1134) (by decide +kernel)⟩
theorem lw_p56 : lw_okq (⟨"PostsFilledModel", "lay", "(I)V"⟩, 53) := ⟨⟨by decide +kernel, by decide +kernel⟩, List.mem_of_getElem? (i := 831) (by decide +kernel), List.mem_of_getElem? (i := 1137) (by decide +kernel), List.mem_of_getElem? (i := 1138) (by decide +kernel)⟩
theorem lw_p57 : lw_okq (⟨"PostsFilledModel", "sum", "()V"⟩, 53) := ⟨⟨by decide +kernel, by decide +kernel⟩, List.mem_of_getElem? (i := 831) (by decide +kernel), List.mem_of_getElem? (i := 1141) (by decide +kernel), List.mem_of_getElem? (i := 1142) (by decide +kernel)⟩
theorem lw_p58 : lw_okq (⟨"PostsFilledModel", "term", "()V"⟩, 53) := ⟨⟨by decide +kernel, by decide +kernel⟩, List.mem_of_getElem? (i := 831) (by decide +kernel), List.mem_of_getElem? (i := 1145) (by decide +kernel), List.mem_of_getElem? (i := 1146) (by decide +kernel)⟩
theorem lw_p59 : lw_okq (⟨"PostsFilledModel", "one", "()V"⟩, 53) := ⟨⟨by decide +kernel, by decide +kernel⟩, List.mem_of_getElem? (i := 831) (by decide +kernel), List.mem_of_getElem? (i := 1149) (by decide +kernel), List.mem_of_getElem? (i := 1150) (by decide +kernel)⟩
theorem lw_p60 : lw_okq (⟨"PostsFilledModel", "isSign", "(I)Z"⟩, 53) := ⟨⟨by decide +kernel, by decide +kernel⟩, List.mem_of_getElem? (i := 831) (by decide +kernel), List.mem_of_getElem? (i := 1153) (by decide +kernel), List.mem_of_getElem? (i := 1154) (by decide +kernel)⟩
theorem lw_p61 : lw_okq (⟨"PostsFilledModel", "areAway", "(I)Z"⟩, 53) := ⟨⟨by decide +kernel, by decide +kernel⟩, List.mem_of_getElem? (i := 831) (by decide +kernel), List.mem_of_getElem? (i := 1165) (by decide +kernel), List.mem_of_getElem? (i := 1166) (by decide +kernel)⟩
theorem lw_p62 : lw_okq (⟨"PostsFilledModel", "findCan", "()V"⟩, 53) := ⟨⟨by decide +kernel, by decide +kernel⟩, List.mem_of_getElem? (i := 831) (by decide +kernel), List.mem_of_getElem? (i := 1169) (by decide +kernel), List.mem_of_getElem? (i := 1170) (by decide +kernel)⟩
theorem lw_p63 : lw_okq (⟨"PostsFilledModel", "findComes", "()V"⟩, 53) := ⟨⟨by decide +kernel, by decide +kernel⟩, List.mem_of_getElem? (i := 831) (by decide +kernel), List.mem_of_getElem? (i := 1173) (by decide +kernel), List.mem_of_getElem? (i := 1174) (by decide +kernel)⟩
def lw_privs_4 : List (MethodName × Nat) := [(⟨"PostsFilledModel", "byteAt", "(I)I"⟩, 53), (⟨"PostsFilledModel", "wordOf", "()I"⟩, 53), (⟨"PostsFilledModel", "isKey", "(I)Z"⟩, 53), (⟨"PostsFilledModel", "wrong", "()V"⟩, 53), (⟨"PostsFilledModel", "either", "()V"⟩, 53), (⟨"PostsFilledModel", "both", "()V"⟩, 53), (⟨"PostsFilledModel", "not", "()V"⟩, 53), (⟨"PostsFilledModel", "opens", "()Z"⟩, 53), (⟨"PostsFilledModel", "lay", "(I)V"⟩, 53), (⟨"PostsFilledModel", "sum", "()V"⟩, 53), (⟨"PostsFilledModel", "term", "()V"⟩, 53), (⟨"PostsFilledModel", "one", "()V"⟩, 53), (⟨"PostsFilledModel", "isSign", "(I)Z"⟩, 53), (⟨"PostsFilledModel", "areAway", "(I)Z"⟩, 53), (⟨"PostsFilledModel", "findCan", "()V"⟩, 53), (⟨"PostsFilledModel", "findComes", "()V"⟩, 53)]
theorem lw_r4 : ∀ q ∈ lw_privs_4, lw_okq q := List.forall_mem_cons.mpr ⟨lw_p48, List.forall_mem_cons.mpr ⟨lw_p49, List.forall_mem_cons.mpr ⟨lw_p50, List.forall_mem_cons.mpr ⟨lw_p51, List.forall_mem_cons.mpr ⟨lw_p52, List.forall_mem_cons.mpr ⟨lw_p53, List.forall_mem_cons.mpr ⟨lw_p54, List.forall_mem_cons.mpr ⟨lw_p55, List.forall_mem_cons.mpr ⟨lw_p56, List.forall_mem_cons.mpr ⟨lw_p57, List.forall_mem_cons.mpr ⟨lw_p58, List.forall_mem_cons.mpr ⟨lw_p59, List.forall_mem_cons.mpr ⟨lw_p60, List.forall_mem_cons.mpr ⟨lw_p61, List.forall_mem_cons.mpr ⟨lw_p62, List.forall_mem_cons.mpr ⟨lw_p63, fun _ h => absurd h List.not_mem_nil⟩⟩⟩⟩⟩⟩⟩⟩⟩⟩⟩⟩⟩⟩⟩⟩
theorem lw_p64 : lw_okq (⟨"PostsFilledModel", "findBest", "(I)Z"⟩, 53) := ⟨⟨by decide +kernel, by decide +kernel⟩, List.mem_of_getElem? (i := 831) (by decide +kernel), List.mem_of_getElem? (i := 1177) (by decide +kernel), List.mem_of_getElem? (i := 1178) (by decide +kernel)⟩
theorem lw_p65 : lw_okq (⟨"PostsFilledModel", "fills", "(III)Z"⟩, 53) := ⟨⟨by decide +kernel, by decide +kernel⟩, List.mem_of_getElem? (i := 831) (by decide +kernel), List.mem_of_getElem? (i := 1181) (by decide +kernel), List.mem_of_getElem? (i := 1182) (by decide +kernel)⟩
theorem lw_p66 : lw_okq (⟨"PostsFilledModel", "worstOf", "(I)I"⟩, 53) := ⟨⟨by decide +kernel, by decide +kernel⟩, List.mem_of_getElem? (i := 831) (by decide +kernel), List.mem_of_getElem? (i := 1197) (by decide +kernel), List.mem_of_getElem? (i := 1198) (by decide +kernel)⟩
theorem lw_p67 : lw_okq (⟨"PostsFilledModel", "isFilled", "(I)Z"⟩, 53) := ⟨⟨by decide +kernel, by decide +kernel⟩, List.mem_of_getElem? (i := 831) (by decide +kernel), List.mem_of_getElem? (i := 1201) (by decide +kernel), List.mem_of_getElem? (i := 1202) (by decide +kernel)⟩
theorem lw_p68 : lw_okq (⟨"PostsFilledModel", "findLessons", "(I)V"⟩, 53) := ⟨⟨by decide +kernel, by decide +kernel⟩, List.mem_of_getElem? (i := 831) (by decide +kernel), List.mem_of_getElem? (i := 1214) (by decide +kernel), List.mem_of_getElem? (i := 1215) (by decide +kernel)⟩
theorem lw_p69 : lw_okq (⟨"PostsFilledModel", "tryLessons", "(II)V"⟩, 53) := ⟨⟨by decide +kernel, by decide +kernel⟩, List.mem_of_getElem? (i := 831) (by decide +kernel), List.mem_of_getElem? (i := 1218) (by decide +kernel), List.mem_of_getElem? (i := 1219) (by decide +kernel)⟩
theorem lw_p70 : lw_okq (⟨"PostsFilledModel", "isLesson", "(I)Z"⟩, 53) := ⟨⟨by decide +kernel, by decide +kernel⟩, List.mem_of_getElem? (i := 831) (by decide +kernel), List.mem_of_getElem? (i := 1222) (by decide +kernel), List.mem_of_getElem? (i := 1223) (by decide +kernel)⟩
theorem lw_p71 : lw_okq (⟨"PostsFilledModel", "tries", "(III)V"⟩, 53) := ⟨⟨by decide +kernel, by decide +kernel⟩, List.mem_of_getElem? (i := 831) (by decide +kernel), List.mem_of_getElem? (i := 1226) (by decide +kernel), List.mem_of_getElem? (i := 1227) (by decide +kernel)⟩
theorem lw_p72 : lw_okq (⟨"PostsFilledModel", "learns", "(IZ)V"⟩, 53) := ⟨⟨by decide +kernel, by decide +kernel⟩, List.mem_of_getElem? (i := 831) (by decide +kernel), List.mem_of_getElem? (i := 1230) (by decide +kernel), List.mem_of_getElem? (i := 1231) (by decide +kernel)⟩
theorem lw_p73 : lw_okq (⟨"PostsFilledModel", "payOf", "(I)I"⟩, 53) := ⟨⟨by decide +kernel, by decide +kernel⟩, List.mem_of_getElem? (i := 831) (by decide +kernel), List.mem_of_getElem? (i := 1259) (by decide +kernel), List.mem_of_getElem? (i := 1260) (by decide +kernel)⟩
def lw_privs_5 : List (MethodName × Nat) := [(⟨"PostsFilledModel", "findBest", "(I)Z"⟩, 53), (⟨"PostsFilledModel", "fills", "(III)Z"⟩, 53), (⟨"PostsFilledModel", "worstOf", "(I)I"⟩, 53), (⟨"PostsFilledModel", "isFilled", "(I)Z"⟩, 53), (⟨"PostsFilledModel", "findLessons", "(I)V"⟩, 53), (⟨"PostsFilledModel", "tryLessons", "(II)V"⟩, 53), (⟨"PostsFilledModel", "isLesson", "(I)Z"⟩, 53), (⟨"PostsFilledModel", "tries", "(III)V"⟩, 53), (⟨"PostsFilledModel", "learns", "(IZ)V"⟩, 53), (⟨"PostsFilledModel", "payOf", "(I)I"⟩, 53)]
theorem lw_r5 : ∀ q ∈ lw_privs_5, lw_okq q := List.forall_mem_cons.mpr ⟨lw_p64, List.forall_mem_cons.mpr ⟨lw_p65, List.forall_mem_cons.mpr ⟨lw_p66, List.forall_mem_cons.mpr ⟨lw_p67, List.forall_mem_cons.mpr ⟨lw_p68, List.forall_mem_cons.mpr ⟨lw_p69, List.forall_mem_cons.mpr ⟨lw_p70, List.forall_mem_cons.mpr ⟨lw_p71, List.forall_mem_cons.mpr ⟨lw_p72, List.forall_mem_cons.mpr ⟨lw_p73, fun _ h => absurd h List.not_mem_nil⟩⟩⟩⟩⟩⟩⟩⟩⟩⟩
def lw_privs : List (MethodName × Nat) := lw_privs_1 ++ (lw_privs_2 ++ (lw_privs_3 ++ (lw_privs_4 ++ (lw_privs_5))))
def lw_tbl : List Cond := k2_sels lw_privs ++ tables_1
theorem lw_privs_ok : ∀ q ∈ lw_privs, lw_okq q := by
  show ∀ q ∈ lw_privs_1 ++ (lw_privs_2 ++ (lw_privs_3 ++ (lw_privs_4 ++ (lw_privs_5)))), lw_okq q
  exact List.forall_mem_append.mpr ⟨lw_r1, List.forall_mem_append.mpr ⟨lw_r2, List.forall_mem_append.mpr ⟨lw_r3, List.forall_mem_append.mpr ⟨lw_r4, lw_r5⟩⟩⟩⟩
end
section
def gtbl : List Cond := lw_tbl.filter goodWord
theorem zin {w : Cond} (i : Nat) (h : lw_tbl[i]? = some w) (hg : goodWord w = true) : w ∈ gtbl := List.mem_filter.mpr ⟨List.mem_of_getElem? h, hg⟩
theorem zins {ws : List Cond} (ps : List Nat) (h : ws = ps.filterMap (fun i => lw_tbl[i]?)) (hg : ws.all goodWord = true) : ∀ w ∈ ws, w ∈ gtbl := by
  intro w hw
  have h1 := List.all_eq_true.mp hg w hw
  rw [h] at hw
  obtain ⟨i, -, hi⟩ := List.mem_filterMap.mp hw
  exact zin i hi h1
def zn0 : String := "PostsFilled$Course"
def zT0 : u_T := fun k => match k with
  | 0 => ("PostsFilled$Course", "size", "I", false)
  | 1 => ("PostsFilled$Course", "lesson", "[I", true)
  | 2 => ("PostsFilled$Course", "cost", "[I", true)
  | 3 => ("PostsFilled$Course", "helps", "[J", true)
  | 4 => ("PostsFilled$Course", "found", "I", false)
  | 5 => ("PostsFilled$Course", "price", "I", false)
  | _ => ("PostsFilled$Course", "which", "I", false)
def zft0 : List FieldType := [.int, .array .int, .array .int, .array .long, .int, .int, .int]
def zn1 : String := "PostsFilled$Cover"
def zT1 : u_T := fun k => match k with
  | 0 => ("PostsFilled$Cover", "must", "I", false)
  | 1 => ("PostsFilled$Cover", "able", "[I", true)
  | _ => ("PostsFilled$Cover", "reach", "[I", true)
def zft1 : List FieldType := [.int, .array .int, .array .int]
def zn2 : String := "PostsFilled$Office"
def zT2 : u_T := fun k => match k with
  | 0 => ("PostsFilled$Office", "size", "I", false)
  | 1 => ("PostsFilled$Office", "must", "I", false)
  | 2 => ("PostsFilled$Office", "value", "[I", true)
  | _ => ("PostsFilled$Office", "year", "I", false)
def zft2 : List FieldType := [.int, .int, .array .int, .int]
def zn3 : String := "PostsFilled$Person"
def zT3 : u_T := fun k => match k with
  | 0 => ("PostsFilled$Person", "kind", "I", false)
  | 1 => ("PostsFilled$Person", "own", "I", false)
  | 2 => ("PostsFilled$Person", "number", "I", false)
  | 3 => ("PostsFilled$Person", "chance", "I", false)
  | 4 => ("PostsFilled$Person", "asked", "I", false)
  | 5 => ("PostsFilled$Person", "last", "[I", true)
  | 6 => ("PostsFilled$Person", "bars", "I", false)
  | 7 => ("PostsFilled$Person", "savedAsked", "I", false)
  | 8 => ("PostsFilled$Person", "savedLast", "[I", true)
  | _ => ("PostsFilled$Person", "savedBars", "I", false)
def zft3 : List FieldType := [.int, .int, .int, .int, .int, .array .int, .int, .int, .array .int, .int]
def zn4 : String := "PostsFilled$Plan"
def zT4 : u_T := fun k => match k with
  | 0 => ("PostsFilled$Plan", "posts", "I", false)
  | 1 => ("PostsFilled$Plan", "must", "I", false)
  | 2 => ("PostsFilled$Plan", "gain", "[I", true)
  | 3 => ("PostsFilled$Plan", "best", "[I", true)
  | _ => ("PostsFilled$Plan", "at", "[I", true)
def zft4 : List FieldType := [.int, .int, .array .int, .array .int, .array .int]
def zn5 : String := "PostsFilled$Reader"
def zT5 : u_T := fun k => match k with
  | 0 => ("PostsFilled$Reader", "size", "I", false)
  | 1 => ("PostsFilled$Reader", "tape", "[I", true)
  | 2 => ("PostsFilled$Reader", "target", "LPostsFilled$Text;", false)
  | 3 => ("PostsFilled$Reader", "next", "I", false)
  | 4 => ("PostsFilled$Reader", "token", "I", false)
  | 5 => ("PostsFilled$Reader", "start", "I", false)
  | 6 => ("PostsFilled$Reader", "number", "I", false)
  | _ => ("PostsFilled$Reader", "fault", "I", false)
def zft5 : List FieldType := [.int, .array .int, .object "PostsFilled$Text", .int, .int, .int, .int, .int]
def zn6 : String := "PostsFilled$Sheet"
def zT6 : u_T := fun k => match k with
  | 0 => ("PostsFilled$Sheet", "sort", "I", false)
  | 1 => ("PostsFilled$Sheet", "size", "I", false)
  | _ => ("PostsFilled$Sheet", "cells", "[I", true)
def zft6 : List FieldType := [.int, .int, .array .int]
def zn7 : String := "PostsFilled$Text"
def zT7 : u_T := fun k => match k with
  | 0 => ("PostsFilled$Text", "steps", "[I", true)
  | 1 => ("PostsFilled$Text", "size", "I", false)
  | 2 => ("PostsFilled$Text", "ends", "[I", true)
  | _ => ("PostsFilled$Text", "stack", "[I", true)
def zft7 : List FieldType := [.array .int, .int, .array .int, .array .int]
def zn8 : String := "PostsFilled"
def zT8 : u_T := fun k => match k with
  | 0 => ("PostsFilled", "office", "LPostsFilled$Office;", true)
  | 1 => ("PostsFilled", "crew", "[LPostsFilled$Person;", true)
  | 2 => ("PostsFilled", "crewSize", "I", false)
  | 3 => ("PostsFilled", "reader", "LPostsFilled$Reader;", true)
  | 4 => ("PostsFilled", "texts", "[LPostsFilled$Text;", true)
  | 5 => ("PostsFilled", "textsSize", "I", false)
  | 6 => ("PostsFilled", "rule", "I", false)
  | 7 => ("PostsFilled", "names", "[I", true)
  | 8 => ("PostsFilled", "cover", "LPostsFilled$Cover;", true)
  | 9 => ("PostsFilled", "plan", "LPostsFilled$Plan;", true)
  | 10 => ("PostsFilled", "course", "LPostsFilled$Course;", true)
  | 11 => ("PostsFilled", "sheets", "[LPostsFilled$Sheet;", true)
  | 12 => ("PostsFilled", "hasImage", "Z", false)
  | 13 => ("PostsFilled", "imageYears", "I", false)
  | 14 => ("PostsFilled", "imageRule", "I", false)
  | _ => ("PostsFilled", "imageCrewSize", "I", false)
def zft8 : List FieldType := [.object "PostsFilled$Office", .array (.object "PostsFilled$Person"), .int, .object "PostsFilled$Reader", .array (.object "PostsFilled$Text"), .int, .int, .array .int, .object "PostsFilled$Cover", .object "PostsFilled$Plan", .object "PostsFilled$Course", .array (.object "PostsFilled$Sheet"), .boolean, .int, .int, .int]
def zn9 : String := "PostsFilledModel"
def zT9 : u_T := fun k => match k with
  | 0 => ("PostsFilledModel", "thrown", "I", false)
  | 1 => ("PostsFilledModel", "posts", "I", false)
  | 2 => ("PostsFilledModel", "must", "[Z", true)
  | 3 => ("PostsFilledModel", "value", "[I", true)
  | 4 => ("PostsFilledModel", "people", "I", false)
  | 5 => ("PostsFilledModel", "kind", "[I", true)
  | 6 => ("PostsFilledModel", "own", "[I", true)
  | 7 => ("PostsFilledModel", "number", "[I", true)
  | 8 => ("PostsFilledModel", "chance", "[I", true)
  | 9 => ("PostsFilledModel", "asked", "[I", true)
  | 10 => ("PostsFilledModel", "year", "I", false)
  | 11 => ("PostsFilledModel", "since", "[I", true)
  | 12 => ("PostsFilledModel", "wasTaught", "[Z", true)
  | 13 => ("PostsFilledModel", "isBarred", "[Z", true)
  | 14 => ("PostsFilledModel", "tape", "[I", true)
  | 15 => ("PostsFilledModel", "taped", "I", false)
  | 16 => ("PostsFilledModel", "texts", "I", false)
  | 17 => ("PostsFilledModel", "rule", "I", false)
  | 18 => ("PostsFilledModel", "acts", "[I", true)
  | 19 => ("PostsFilledModel", "partFrom", "[I", true)
  | 20 => ("PostsFilledModel", "partTo", "[I", true)
  | 21 => ("PostsFilledModel", "made", "I", false)
  | 22 => ("PostsFilledModel", "begin", "I", false)
  | 23 => ("PostsFilledModel", "at", "I", false)
  | 24 => ("PostsFilledModel", "token", "I", false)
  | 25 => ("PostsFilledModel", "worth", "I", false)
  | 26 => ("PostsFilledModel", "open", "I", false)
  | 27 => ("PostsFilledModel", "isWrong", "Z", false)
  | 28 => ("PostsFilledModel", "wrongAt", "I", false)
  | 29 => ("PostsFilledModel", "letters", "[C", true)
  | 30 => ("PostsFilledModel", "pile", "[I", true)
  | 31 => ("PostsFilledModel", "names", "[I", true)
  | 32 => ("PostsFilledModel", "can", "[I", true)
  | 33 => ("PostsFilledModel", "comes", "[I", true)
  | 34 => ("PostsFilledModel", "trial", "[I", true)
  | 35 => ("PostsFilledModel", "best", "[I", true)
  | 36 => ("PostsFilledModel", "bestSum", "I", false)
  | 37 => ("PostsFilledModel", "wantsBest", "Z", false)
  | 38 => ("PostsFilledModel", "lessonMany", "I", false)
  | 39 => ("PostsFilledModel", "lessonCost", "I", false)
  | 40 => ("PostsFilledModel", "lessonWhich", "I", false)
  | 41 => ("PostsFilledModel", "hasImage", "Z", false)
  | 42 => ("PostsFilledModel", "imagePeople", "I", false)
  | 43 => ("PostsFilledModel", "imageYear", "I", false)
  | 44 => ("PostsFilledModel", "imageRule", "I", false)
  | 45 => ("PostsFilledModel", "imageSince", "[I", true)
  | 46 => ("PostsFilledModel", "imageTaught", "[Z", true)
  | 47 => ("PostsFilledModel", "imageBarred", "[Z", true)
  | 48 => ("PostsFilledModel", "imageAsked", "[I", true)
  | 49 => ("PostsFilledModel", "sorts", "[I", true)
  | 50 => ("PostsFilledModel", "sizes", "[I", true)
  | 51 => ("PostsFilledModel", "items", "[I", true)
  | _ => ("PostsFilledModel", "carried", "[I", true)
def zft9 : List FieldType := [.int, .int, .array .boolean, .array .int, .int, .array .int, .array .int, .array .int, .array .int, .array .int, .int, .array .int, .array .boolean, .array .boolean, .array .int, .int, .int, .int, .array .int, .array .int, .array .int, .int, .int, .int, .int, .int, .int, .boolean, .int, .array .char, .array .int, .array .int, .array .int, .array .int, .array .int, .array .int, .int, .boolean, .int, .int, .int, .boolean, .int, .int, .int, .array .int, .array .boolean, .array .boolean, .array .int, .array .int, .array .int, .array .int, .array .int]
def zft : Nat → List FieldType := fun ci => match ci with
  | 0 => zft0
  | 1 => zft1
  | 2 => zft2
  | 3 => zft3
  | 4 => zft4
  | 5 => zft5
  | 6 => zft6
  | 7 => zft7
  | 8 => zft8
  | 9 => zft9
  | _ => []
abbrev vwCl : List vw_C := [(zn0, zT0, 7), (zn1, zT1, 3), (zn2, zT2, 4), (zn3, zT3, 10), (zn4, zT4, 5), (zn5, zT5, 8), (zn6, zT6, 3), (zn7, zT7, 4), (zn8, zT8, 16), (zn9, zT9, 53)]
/-- what is known of a kind of objects: its place, its fields' types, that their names are apart, its words -/
def zCls (ci : Nat) (C : String) (T : u_T) (N : Nat) : Prop := vwCl[ci]? = some (C, T, N) ∧ (zft ci).length = N ∧ (∀ k, k < N → parseFieldDescriptor (T k).2.2.1 = some ((zft ci).getD k .int)) ∧ (∀ a, a < N → ∀ b, b < N → a ≠ b → (T a).2.1 ≠ (T b).2.1) ∧ ∀ w ∈ u_ws C T N, w ∈ gtbl
/-- a field by its number in a table of constants -/
def zFld (own : String) (idx ci k : Nat) (ty : FieldType) (fin : Bool) : Prop := ∃ (C : String) (T : u_T) (N : Nat), zCls ci C T N ∧ k < N ∧ (zft ci)[k]? = some ty ∧ (T k).2.2.2 = fin ∧ (T k).1 = C ∧ Cond.fieldLink own idx (T k).1 (T k).2.1 (T k).2.2.1 ∈ gtbl
abbrev zY : Type := MethodName × ByteArray × Nat × Option FieldType
/-- what is known of a method that is called -/
def zMth (y : zY) (n : Nat) : Prop := Cond.code y.1 y.2.1 y.2.2.1 y.2.2.2 ∈ gtbl ∧ Cond.initialized y.1.cls ∈ gtbl ∧ y.1.cls ≠ "java/lang/invoke/MethodHandle" ∧ y.1.cls ≠ "java/lang/invoke/VarHandle" ∧ (parseMethodDescriptor y.1.desc).map (fun d => d.parameters.length) = some n ∧ y.2.2.1 ≤ 50
def zVir (y : zY) (n : Nat) : Prop := zMth y n ∧ Cond.instanceMethod y.1 ∈ gtbl ∧ Cond.selects y.1.cls y.1 y.1 ∈ gtbl
def zSta (y : zY) (n : Nat) : Prop := zMth y n ∧ Cond.static y.1 ∈ gtbl
def zIni (y : zY) (n : Nat) : Prop := zMth y n ∧ Cond.instanceMethod y.1 ∈ gtbl ∧ y.1.name = "<init>"
set_option maxRecDepth 20000 in
theorem zcls0 : zCls 0 zn0 zT0 7 := ⟨rfl, rfl, by decide +kernel, by decide +kernel, zins [193, 195, 197, 199, 201, 203, 205] (by decide +kernel) (by decide +kernel)⟩
set_option maxRecDepth 20000 in
theorem zcls1 : zCls 1 zn1 zT1 3 := ⟨rfl, rfl, by decide +kernel, by decide +kernel, zins [143, 145, 147] (by decide +kernel) (by decide +kernel)⟩
set_option maxRecDepth 20000 in
theorem zcls2 : zCls 2 zn2 zT2 4 := ⟨rfl, rfl, by decide +kernel, by decide +kernel, zins [118, 120, 122, 124] (by decide +kernel) (by decide +kernel)⟩
set_option maxRecDepth 20000 in
theorem zcls3 : zCls 3 zn3 zT3 10 := ⟨rfl, rfl, by decide +kernel, by decide +kernel, zins [235, 237, 239, 241, 243, 245, 247, 249, 251, 253] (by decide +kernel) (by decide +kernel)⟩
set_option maxRecDepth 20000 in
theorem zcls4 : zCls 4 zn4 zT4 5 := ⟨rfl, rfl, by decide +kernel, by decide +kernel, zins [166, 168, 170, 172, 174] (by decide +kernel) (by decide +kernel)⟩
set_option maxRecDepth 20000 in
theorem zcls5 : zCls 5 zn5 zT5 8 := ⟨rfl, rfl, by decide +kernel, by decide +kernel, zins [307, 309, 311, 313, 315, 317, 319, 321] (by decide +kernel) (by decide +kernel)⟩
set_option maxRecDepth 20000 in
theorem zcls6 : zCls 6 zn6 zT6 3 := ⟨rfl, rfl, by decide +kernel, by decide +kernel, zins [285, 287, 289] (by decide +kernel) (by decide +kernel)⟩
set_option maxRecDepth 20000 in
theorem zcls7 : zCls 7 zn7 zT7 4 := ⟨rfl, rfl, by decide +kernel, by decide +kernel, zins [265, 267, 269, 271] (by decide +kernel) (by decide +kernel)⟩
set_option maxRecDepth 20000 in
theorem zcls8 : zCls 8 zn8 zT8 16 := ⟨rfl, rfl, by decide +kernel, by decide +kernel, zins [473, 475, 477, 479, 481, 483, 485, 487, 489, 491, 493, 495, 497, 499, 501, 503] (by decide +kernel) (by decide +kernel)⟩
set_option maxRecDepth 20000 in
theorem zcls9 : zCls 9 zn9 zT9 53 := ⟨rfl, rfl, by decide +kernel, by decide +kernel, zins [962, 964, 966, 968, 970, 972, 974, 976, 978, 980, 982, 984, 986, 988, 990, 992, 994, 996, 998, 1000, 1002, 1004, 1006, 1008, 1010, 1012, 1014, 1016, 1018, 1020, 1022, 1024, 1026, 1028, 1030, 1032, 1034, 1036, 1038, 1040, 1042, 1044, 1046, 1048, 1050, 1052, 1054, 1056, 1058, 1060, 1062, 1064, 1066] (by decide +kernel) (by decide +kernel)⟩
abbrev zy_X_init : zY := (⟨"PostsFilled", "<init>", "()V"⟩, prog_1_method_1_code, 2, none)
abbrev zy_X_back : zY := (⟨"PostsFilled", "back", "()I"⟩, prog_1_method_24_code, 2, (some .int))
abbrev zy_X_bar : zY := (⟨"PostsFilled", "bar", "(III)I"⟩, prog_1_method_6_code, 6, (some .int))
abbrev zy_X_bounded : zY := (⟨"PostsFilled", "bounded", "(III)I"⟩, prog_1_method_42_code, 3, (some .int))
abbrev zy_X_cell : zY := (⟨"PostsFilled", "cell", "(III)I"⟩, prog_1_method_27_code, 5, (some .int))
abbrev zy_X_commonDivisor : zY := (⟨"PostsFilled", "commonDivisor", "(JJ)J"⟩, prog_1_method_50_code, 7, (some .long))
abbrev zy_X_copy : zY := (⟨"PostsFilled", "copy", "(IIIII)I"⟩, prog_1_method_28_code, 8, (some .int))
abbrev zy_X_costOf : zY := (⟨"PostsFilled", "costOf", "(LPostsFilled$Person;I)I"⟩, prog_1_method_40_code, 3, (some .int))
abbrev zy_X_count : zY := (⟨"PostsFilled", "count", "(I)I"⟩, prog_1_method_25_code, 2, (some .int))
abbrev zy_X_done : zY := (⟨"PostsFilled", "done", "(I)I"⟩, prog_1_method_18_code, 5, (some .int))
abbrev zy_X_even : zY := (⟨"PostsFilled", "even", "()I"⟩, prog_1_method_19_code, 4, (some .int))
abbrev zy_X_everyone : zY := (⟨"PostsFilled", "everyone", "()I"⟩, prog_1_method_35_code, 1, (some .int))
abbrev zy_X_feed : zY := (⟨"PostsFilled", "feed", "(IJ)I"⟩, prog_1_method_8_code, 5, (some .int))
abbrev zy_X_few : zY := (⟨"PostsFilled", "few", "(I)I"⟩, prog_1_method_12_code, 2, (some .int))
abbrev zy_X_fill : zY := (⟨"PostsFilled", "fill", "(II)I"⟩, prog_1_method_11_code, 4, (some .int))
abbrev zy_X_first : zY := (⟨"PostsFilled", "first", "()I"⟩, prog_1_method_21_code, 7, (some .int))
abbrev zy_X_firstThatBreaks : zY := (⟨"PostsFilled", "firstThatBreaks", "(I)I"⟩, prog_1_method_46_code, 3, (some .int))
abbrev zy_X_force : zY := (⟨"PostsFilled", "force", "(I)I"⟩, prog_1_method_10_code, 3, (some .int))
abbrev zy_X_hire : zY := (⟨"PostsFilled", "hire", "(II)I"⟩, prog_1_method_36_code, 3, (some .int))
abbrev zy_X_holds : zY := (⟨"PostsFilled", "holds", "(I)I"⟩, prog_1_method_13_code, 2, (some .int))
abbrev zy_X_image : zY := (⟨"PostsFilled", "image", "()I"⟩, prog_1_method_23_code, 2, (some .int))
abbrev zy_X_isCrewSet : zY := (⟨"PostsFilled", "isCrewSet", "(I)Z"⟩, prog_1_method_34_code, 2, (some .boolean))
abbrev zy_X_isFlag : zY := (⟨"PostsFilled", "isFlag", "(I)Z"⟩, prog_1_method_31_code, 1, (some .boolean))
abbrev zy_X_isPerson : zY := (⟨"PostsFilled", "isPerson", "(I)Z"⟩, prog_1_method_33_code, 2, (some .boolean))
abbrev zy_X_isSheet : zY := (⟨"PostsFilled", "isSheet", "(I)Z"⟩, prog_1_method_32_code, 1, (some .boolean))
abbrev zy_X_judge : zY := (⟨"PostsFilled", "judge", "(II)I"⟩, prog_1_method_22_code, 8, (some .int))
abbrev zy_X_lessons : zY := (⟨"PostsFilled", "lessons", "(II)I"⟩, prog_1_method_15_code, 3, (some .int))
abbrev zy_X_lessonsOfAll : zY := (⟨"PostsFilled", "lessonsOfAll", "()I"⟩, prog_1_method_37_code, 3, (some .int))
abbrev zy_X_lookAtGains : zY := (⟨"PostsFilled", "lookAtGains", "(I)V"⟩, prog_1_method_45_code, 5, none)
abbrev zy_X_lookWhoCan : zY := (⟨"PostsFilled", "lookWhoCan", "()V"⟩, prog_1_method_43_code, 3, none)
abbrev zy_X_offerLessons : zY := (⟨"PostsFilled", "offerLessons", "()V"⟩, prog_1_method_48_code, 3, none)
abbrev zy_X_pay : zY := (⟨"PostsFilled", "pay", "(I)I"⟩, prog_1_method_20_code, 4, (some .int))
abbrev zy_X_people : zY := (⟨"PostsFilled", "people", "(IIII)I"⟩, prog_1_method_29_code, 9, (some .int))
abbrev zy_X_person : zY := (⟨"PostsFilled", "person", "(II)I"⟩, prog_1_method_3_code, 3, (some .int))
abbrev zy_X_planWithout : zY := (⟨"PostsFilled", "planWithout", "(I)I"⟩, prog_1_method_44_code, 3, (some .int))
abbrev zy_X_poorestThatFills : zY := (⟨"PostsFilled", "poorestThatFills", "(I)I"⟩, prog_1_method_47_code, 6, (some .int))
abbrev zy_X_post : zY := (⟨"PostsFilled", "post", "(II)I"⟩, prog_1_method_2_code, 3, (some .int))
abbrev zy_X_ring : zY := (⟨"PostsFilled", "ring", "()I"⟩, prog_1_method_16_code, 3, (some .int))
abbrev zy_X_sheet : zY := (⟨"PostsFilled", "sheet", "(III)I"⟩, prog_1_method_26_code, 4, (some .int))
abbrev zy_X_sure : zY := (⟨"PostsFilled", "sure", "(I)J"⟩, prog_1_method_17_code, 8, (some .long))
abbrev zy_X_taken : zY := (⟨"PostsFilled", "taken", "(II)I"⟩, prog_1_method_30_code, 3, (some .int))
abbrev zy_X_teach : zY := (⟨"PostsFilled", "teach", "(II)I"⟩, prog_1_method_5_code, 4, (some .int))
abbrev zy_X_tenthsOf : zY := (⟨"PostsFilled", "tenthsOf", "(I)J"⟩, prog_1_method_49_code, 5, (some .long))
abbrev zy_X_text : zY := (⟨"PostsFilled", "text", "()I"⟩, prog_1_method_9_code, 2, (some .int))
abbrev zy_X_told : zY := (⟨"PostsFilled", "told", "(III)I"⟩, prog_1_method_7_code, 5, (some .int))
abbrev zy_X_valueOf : zY := (⟨"PostsFilled", "valueOf", "(ILPostsFilled$Person;I)I"⟩, prog_1_method_38_code, 4, (some .int))
abbrev zy_X_wages : zY := (⟨"PostsFilled", "wages", "(LPostsFilled$Person;)I"⟩, prog_1_method_41_code, 2, (some .int))
abbrev zy_X_wellOf : zY := (⟨"PostsFilled", "wellOf", "(LPostsFilled$Person;I)I"⟩, prog_1_method_39_code, 3, (some .int))
abbrev zy_X_worst : zY := (⟨"PostsFilled", "worst", "(II)I"⟩, prog_1_method_14_code, 3, (some .int))
abbrev zy_X_wrongAt : zY := (⟨"PostsFilled", "wrongAt", "(III)I"⟩, prog_1_method_51_code, 4, (some .int))
abbrev zy_X_years : zY := (⟨"PostsFilled", "years", "(I)I"⟩, prog_1_method_4_code, 2, (some .int))
abbrev zy_Course_init : zY := (⟨"PostsFilled$Course", "<init>", "()V"⟩, prog_2_method_1_code, 1, none)
abbrev zy_Course_clear : zY := (⟨"PostsFilled$Course", "clear", "()V"⟩, prog_2_method_2_code, 1, none)
abbrev zy_Course_keepCheaper : zY := (⟨"PostsFilled$Course", "keepCheaper", "(III)V"⟩, prog_2_method_7_code, 4, none)
abbrev zy_Course_offer : zY := (⟨"PostsFilled$Course", "offer", "(IIJ)V"⟩, prog_2_method_3_code, 5, none)
abbrev zy_Course_seek : zY := (⟨"PostsFilled$Course", "seek", "(JJJ)V"⟩, prog_2_method_4_code, 7, none)
abbrev zy_Course_seekOne : zY := (⟨"PostsFilled$Course", "seekOne", "(J)V"⟩, prog_2_method_5_code, 4, none)
abbrev zy_Course_seekTwo : zY := (⟨"PostsFilled$Course", "seekTwo", "(JJ)V"⟩, prog_2_method_6_code, 9, none)
abbrev zy_Cover_init : zY := (⟨"PostsFilled$Cover", "<init>", "()V"⟩, prog_3_method_1_code, 1, none)
abbrev zy_Cover_bears : zY := (⟨"PostsFilled$Cover", "bears", "(II)Z"⟩, prog_3_method_4_code, 3, (some .boolean))
abbrev zy_Cover_helpedBy : zY := (⟨"PostsFilled$Cover", "helpedBy", "(II)J"⟩, prog_3_method_6_code, 6, (some .long))
abbrev zy_Cover_lacking : zY := (⟨"PostsFilled$Cover", "lacking", "(II)J"⟩, prog_3_method_5_code, 6, (some .long))
abbrev zy_Cover_spread : zY := (⟨"PostsFilled$Cover", "spread", "()V"⟩, prog_3_method_2_code, 4, none)
abbrev zy_Cover_tooFew : zY := (⟨"PostsFilled$Cover", "tooFew", "(I)I"⟩, prog_3_method_3_code, 6, (some .int))
abbrev zy_Office_init : zY := (⟨"PostsFilled$Office", "<init>", "()V"⟩, prog_4_method_1_code, 1, none)
abbrev zy_Office_has : zY := (⟨"PostsFilled$Office", "has", "(I)Z"⟩, prog_4_method_2_code, 2, (some .boolean))
abbrev zy_Office_needs : zY := (⟨"PostsFilled$Office", "needs", "(I)Z"⟩, prog_4_method_3_code, 2, (some .boolean))
abbrev zy_Office_open : zY := (⟨"PostsFilled$Office", "open", "(ZI)I"⟩, prog_4_method_4_code, 3, (some .int))
abbrev zy_Person_init : zY := (⟨"PostsFilled$Person", "<init>", "()V"⟩, prog_5_method_1_code, 1, none)
abbrev zy_Person_become : zY := (⟨"PostsFilled$Person", "become", "(IIII)V"⟩, prog_5_method_2_code, 5, none)
abbrev zy_Person_can : zY := (⟨"PostsFilled$Person", "can", "(ILPostsFilled$Office;)Z"⟩, prog_5_method_9_code, 3, (some .boolean))
abbrev zy_Person_counts : zY := (⟨"PostsFilled$Person", "counts", "(LPostsFilled$Office;)I"⟩, prog_5_method_10_code, 4, (some .int))
abbrev zy_Person_describe : zY := (⟨"PostsFilled$Person", "describe", "(ILPostsFilled$Office;[I)V"⟩, prog_5_method_13_code, 4, none)
abbrev zy_Person_isA : zY := (⟨"PostsFilled$Person", "isA", "(I)Z"⟩, prog_5_method_3_code, 4, (some .boolean))
abbrev zy_Person_isBarred : zY := (⟨"PostsFilled$Person", "isBarred", "(I)Z"⟩, prog_5_method_5_code, 2, (some .boolean))
abbrev zy_Person_keeps : zY := (⟨"PostsFilled$Person", "keeps", "()I"⟩, prog_5_method_4_code, 2, (some .int))
abbrev zy_Person_lessonsHad : zY := (⟨"PostsFilled$Person", "lessonsHad", "()I"⟩, prog_5_method_11_code, 3, (some .int))
abbrev zy_Person_recalls : zY := (⟨"PostsFilled$Person", "recalls", "(II)Z"⟩, prog_5_method_8_code, 3, (some .boolean))
abbrev zy_Person_restore : zY := (⟨"PostsFilled$Person", "restore", "()V"⟩, prog_5_method_15_code, 1, none)
abbrev zy_Person_save : zY := (⟨"PostsFilled$Person", "save", "()V"⟩, prog_5_method_14_code, 1, none)
abbrev zy_Person_setBar : zY := (⟨"PostsFilled$Person", "setBar", "(IZ)V"⟩, prog_5_method_6_code, 3, none)
abbrev zy_Person_since : zY := (⟨"PostsFilled$Person", "since", "(II)I"⟩, prog_5_method_7_code, 3, (some .int))
abbrev zy_Person_work : zY := (⟨"PostsFilled$Person", "work", "(II)V"⟩, prog_5_method_12_code, 3, none)
abbrev zy_Plan_init : zY := (⟨"PostsFilled$Plan", "<init>", "()V"⟩, prog_6_method_1_code, 1, none)
abbrev zy_Plan_firstAt : zY := (⟨"PostsFilled$Plan", "firstAt", "(II)I"⟩, prog_6_method_6_code, 5, (some .int))
abbrev zy_Plan_layDown : zY := (⟨"PostsFilled$Plan", "layDown", "(I)I"⟩, prog_6_method_5_code, 5, (some .int))
abbrev zy_Plan_most : zY := (⟨"PostsFilled$Plan", "most", "(II)I"⟩, prog_6_method_3_code, 5, (some .int))
abbrev zy_Plan_reckon : zY := (⟨"PostsFilled$Plan", "reckon", "(II)V"⟩, prog_6_method_2_code, 5, none)
abbrev zy_Plan_worthWith : zY := (⟨"PostsFilled$Plan", "worthWith", "(III)I"⟩, prog_6_method_4_code, 7, (some .int))
abbrev zy_Reader_init : zY := (⟨"PostsFilled$Reader", "<init>", "(LPostsFilled$Text;)V"⟩, prog_7_method_1_code, 2, none)
abbrev zy_Reader_advance : zY := (⟨"PostsFilled$Reader", "advance", "()V"⟩, prog_7_method_13_code, 1, none)
abbrev zy_Reader_expect : zY := (⟨"PostsFilled$Reader", "expect", "(I)V"⟩, prog_7_method_5_code, 2, none)
abbrev zy_Reader_isDigit : zY := (⟨"PostsFilled$Reader", "isDigit", "(I)Z"⟩, prog_7_method_18_code, 1, (some .boolean))
abbrev zy_Reader_isLetter : zY := (⟨"PostsFilled$Reader", "isLetter", "(I)Z"⟩, prog_7_method_17_code, 1, (some .boolean))
abbrev zy_Reader_isSign : zY := (⟨"PostsFilled$Reader", "isSign", "(I)Z"⟩, prog_7_method_19_code, 1, (some .boolean))
abbrev zy_Reader_opens : zY := (⟨"PostsFilled$Reader", "opens", "(I)Z"⟩, prog_7_method_12_code, 2, (some .boolean))
abbrev zy_Reader_read : zY := (⟨"PostsFilled$Reader", "read", "(LPostsFilled$Text;)I"⟩, prog_7_method_3_code, 3, (some .int))
abbrev zy_Reader_readAnd : zY := (⟨"PostsFilled$Reader", "readAnd", "(I)V"⟩, prog_7_method_7_code, 3, none)
abbrev zy_Reader_readNot : zY := (⟨"PostsFilled$Reader", "readNot", "(I)V"⟩, prog_7_method_8_code, 3, none)
abbrev zy_Reader_readOne : zY := (⟨"PostsFilled$Reader", "readOne", "(I)V"⟩, prog_7_method_11_code, 2, none)
abbrev zy_Reader_readOr : zY := (⟨"PostsFilled$Reader", "readOr", "(I)V"⟩, prog_7_method_6_code, 3, none)
abbrev zy_Reader_readSum : zY := (⟨"PostsFilled$Reader", "readSum", "(I)V"⟩, prog_7_method_9_code, 4, none)
abbrev zy_Reader_readTerm : zY := (⟨"PostsFilled$Reader", "readTerm", "(I)V"⟩, prog_7_method_10_code, 3, none)
abbrev zy_Reader_refuse : zY := (⟨"PostsFilled$Reader", "refuse", "()V"⟩, prog_7_method_4_code, 1, none)
abbrev zy_Reader_take : zY := (⟨"PostsFilled$Reader", "take", "(I)V"⟩, prog_7_method_2_code, 2, none)
abbrev zy_Reader_takeNumber : zY := (⟨"PostsFilled$Reader", "takeNumber", "()V"⟩, prog_7_method_15_code, 1, none)
abbrev zy_Reader_takeWord : zY := (⟨"PostsFilled$Reader", "takeWord", "()V"⟩, prog_7_method_14_code, 1, none)
abbrev zy_Reader_wordBetween : zY := (⟨"PostsFilled$Reader", "wordBetween", "(II)I"⟩, prog_7_method_16_code, 8, (some .int))
abbrev zy_Sheet_init : zY := (⟨"PostsFilled$Sheet", "<init>", "()V"⟩, prog_8_method_1_code, 1, none)
abbrev zy_Sheet_become : zY := (⟨"PostsFilled$Sheet", "become", "(II)V"⟩, prog_8_method_3_code, 3, none)
abbrev zy_Sheet_has : zY := (⟨"PostsFilled$Sheet", "has", "(I)Z"⟩, prog_8_method_4_code, 2, (some .boolean))
abbrev zy_Sheet_hasRun : zY := (⟨"PostsFilled$Sheet", "hasRun", "(II)Z"⟩, prog_8_method_5_code, 3, (some .boolean))
abbrev zy_Sheet_isMissing : zY := (⟨"PostsFilled$Sheet", "isMissing", "()Z"⟩, prog_8_method_2_code, 1, (some .boolean))
abbrev zy_Sheet_put : zY := (⟨"PostsFilled$Sheet", "put", "(II)V"⟩, prog_8_method_6_code, 3, none)
abbrev zy_Text_init : zY := (⟨"PostsFilled$Text", "<init>", "()V"⟩, prog_9_method_1_code, 1, none)
abbrev zy_Text_add : zY := (⟨"PostsFilled$Text", "add", "(I)V"⟩, prog_9_method_3_code, 2, none)
abbrev zy_Text_clear : zY := (⟨"PostsFilled$Text", "clear", "()V"⟩, prog_9_method_2_code, 1, none)
abbrev zy_Text_endPart : zY := (⟨"PostsFilled$Text", "endPart", "(I)V"⟩, prog_9_method_4_code, 2, none)
abbrev zy_Text_joined : zY := (⟨"PostsFilled$Text", "joined", "(III)I"⟩, prog_9_method_7_code, 3, (some .int))
abbrev zy_Text_pushed : zY := (⟨"PostsFilled$Text", "pushed", "(I[I)I"⟩, prog_9_method_6_code, 3, (some .int))
abbrev zy_Text_valueOf : zY := (⟨"PostsFilled$Text", "valueOf", "(I[I)I"⟩, prog_9_method_5_code, 6, (some .int))
abbrev zy_M_init : zY := (⟨"PostsFilledModel", "<init>", "()V"⟩, prog_11_method_3_code, 3, none)
abbrev zy_M_areAway : zY := (⟨"PostsFilledModel", "areAway", "(I)Z"⟩, prog_11_method_49_code, 2, (some .boolean))
abbrev zy_M_back : zY := (⟨"PostsFilledModel", "back", "()I"⟩, prog_11_method_71_code, 2, (some .int))
abbrev zy_M_bar : zY := (⟨"PostsFilledModel", "bar", "(III)I"⟩, prog_11_method_12_code, 5, (some .int))
abbrev zy_M_bitsOf : zY := (⟨"PostsFilledModel", "bitsOf", "(I)I"⟩, prog_11_method_51_code, 3, (some .int))
abbrev zy_M_both : zY := (⟨"PostsFilledModel", "both", "()V"⟩, prog_11_method_34_code, 1, none)
abbrev zy_M_byteAt : zY := (⟨"PostsFilledModel", "byteAt", "(I)I"⟩, prog_11_method_19_code, 2, (some .int))
abbrev zy_M_canDo : zY := (⟨"PostsFilledModel", "canDo", "(II)Z"⟩, prog_11_method_15_code, 4, (some .boolean))
abbrev zy_M_cell : zY := (⟨"PostsFilledModel", "cell", "(III)I"⟩, prog_11_method_75_code, 4, (some .int))
abbrev zy_M_copy : zY := (⟨"PostsFilledModel", "copy", "(IIIII)I"⟩, prog_11_method_76_code, 7, (some .int))
abbrev zy_M_costOf : zY := (⟨"PostsFilledModel", "costOf", "(II)I"⟩, prog_11_method_42_code, 3, (some .int))
abbrev zy_M_count : zY := (⟨"PostsFilledModel", "count", "(I)I"⟩, prog_11_method_72_code, 4, (some .int))
abbrev zy_M_countsOf : zY := (⟨"PostsFilledModel", "countsOf", "(I)I"⟩, prog_11_method_16_code, 4, (some .int))
abbrev zy_M_done : zY := (⟨"PostsFilledModel", "done", "(I)I"⟩, prog_11_method_65_code, 5, (some .int))
abbrev zy_M_either : zY := (⟨"PostsFilledModel", "either", "()V"⟩, prog_11_method_35_code, 1, none)
abbrev zy_M_even : zY := (⟨"PostsFilledModel", "even", "()I"⟩, prog_11_method_66_code, 4, (some .int))
abbrev zy_M_feed : zY := (⟨"PostsFilledModel", "feed", "(IJ)I"⟩, prog_11_method_18_code, 5, (some .int))
abbrev zy_M_few : zY := (⟨"PostsFilledModel", "few", "(I)I"⟩, prog_11_method_52_code, 7, (some .int))
abbrev zy_M_fill : zY := (⟨"PostsFilledModel", "fill", "(II)I"⟩, prog_11_method_50_code, 3, (some .int))
abbrev zy_M_fills : zY := (⟨"PostsFilledModel", "fills", "(III)Z"⟩, prog_11_method_46_code, 7, (some .boolean))
abbrev zy_M_findBest : zY := (⟨"PostsFilledModel", "findBest", "(I)Z"⟩, prog_11_method_48_code, 2, (some .boolean))
abbrev zy_M_findCan : zY := (⟨"PostsFilledModel", "findCan", "()V"⟩, prog_11_method_44_code, 3, none)
abbrev zy_M_findComes : zY := (⟨"PostsFilledModel", "findComes", "()V"⟩, prog_11_method_45_code, 3, none)
abbrev zy_M_findLessons : zY := (⟨"PostsFilledModel", "findLessons", "(I)V"⟩, prog_11_method_57_code, 2, none)
abbrev zy_M_first : zY := (⟨"PostsFilledModel", "first", "()I"⟩, prog_11_method_68_code, 7, (some .int))
abbrev zy_M_force : zY := (⟨"PostsFilledModel", "force", "(I)I"⟩, prog_11_method_37_code, 3, (some .int))
abbrev zy_M_held : zY := (⟨"PostsFilledModel", "held", "(III)I"⟩, prog_11_method_40_code, 3, (some .int))
abbrev zy_M_holds : zY := (⟨"PostsFilledModel", "holds", "(I)I"⟩, prog_11_method_54_code, 2, (some .int))
abbrev zy_M_image : zY := (⟨"PostsFilledModel", "image", "()I"⟩, prog_11_method_70_code, 2, (some .int))
abbrev zy_M_in : zY := (⟨"PostsFilledModel", "in", "(JJJ)Z"⟩, prog_11_method_2_code, 6, (some .boolean))
abbrev zy_M_isDigit : zY := (⟨"PostsFilledModel", "isDigit", "(I)Z"⟩, prog_11_method_22_code, 1, (some .boolean))
abbrev zy_M_isFilled : zY := (⟨"PostsFilledModel", "isFilled", "(I)Z"⟩, prog_11_method_47_code, 2, (some .boolean))
abbrev zy_M_isKey : zY := (⟨"PostsFilledModel", "isKey", "(I)Z"⟩, prog_11_method_27_code, 2, (some .boolean))
abbrev zy_M_isLesson : zY := (⟨"PostsFilledModel", "isLesson", "(I)Z"⟩, prog_11_method_56_code, 4, (some .boolean))
abbrev zy_M_isLetter : zY := (⟨"PostsFilledModel", "isLetter", "(I)Z"⟩, prog_11_method_21_code, 1, (some .boolean))
abbrev zy_M_isOne : zY := (⟨"PostsFilledModel", "isOne", "(II)Z"⟩, prog_11_method_7_code, 3, (some .boolean))
abbrev zy_M_isPerson : zY := (⟨"PostsFilledModel", "isPerson", "(I)Z"⟩, prog_11_method_5_code, 2, (some .boolean))
abbrev zy_M_isPost : zY := (⟨"PostsFilledModel", "isPost", "(I)Z"⟩, prog_11_method_4_code, 2, (some .boolean))
abbrev zy_M_isSheet : zY := (⟨"PostsFilledModel", "isSheet", "(I)Z"⟩, prog_11_method_73_code, 1, (some .boolean))
abbrev zy_M_isSign : zY := (⟨"PostsFilledModel", "isSign", "(I)Z"⟩, prog_11_method_26_code, 2, (some .boolean))
abbrev zy_M_isSignByte : zY := (⟨"PostsFilledModel", "isSignByte", "(I)Z"⟩, prog_11_method_23_code, 1, (some .boolean))
abbrev zy_M_judge : zY := (⟨"PostsFilledModel", "judge", "(II)I"⟩, prog_11_method_69_code, 6, (some .int))
abbrev zy_M_keeps : zY := (⟨"PostsFilledModel", "keeps", "(I)I"⟩, prog_11_method_13_code, 2, (some .int))
abbrev zy_M_lay : zY := (⟨"PostsFilledModel", "lay", "(I)V"⟩, prog_11_method_28_code, 2, none)
abbrev zy_M_learns : zY := (⟨"PostsFilledModel", "learns", "(IZ)V"⟩, prog_11_method_58_code, 4, none)
abbrev zy_M_lessons : zY := (⟨"PostsFilledModel", "lessons", "(II)I"⟩, prog_11_method_61_code, 3, (some .int))
abbrev zy_M_next : zY := (⟨"PostsFilledModel", "next", "()V"⟩, prog_11_method_24_code, 3, none)
abbrev zy_M_not : zY := (⟨"PostsFilledModel", "not", "()V"⟩, prog_11_method_33_code, 2, none)
abbrev zy_M_one : zY := (⟨"PostsFilledModel", "one", "()V"⟩, prog_11_method_30_code, 2, none)
abbrev zy_M_opens : zY := (⟨"PostsFilledModel", "opens", "()Z"⟩, prog_11_method_29_code, 1, (some .boolean))
abbrev zy_M_over : zY := (⟨"PostsFilledModel", "over", "(I)I"⟩, prog_11_method_78_code, 1, (some .int))
abbrev zy_M_partOf : zY := (⟨"PostsFilledModel", "partOf", "(JJI)J"⟩, prog_11_method_63_code, 11, (some .long))
abbrev zy_M_pay : zY := (⟨"PostsFilledModel", "pay", "(I)I"⟩, prog_11_method_67_code, 4, (some .int))
abbrev zy_M_payOf : zY := (⟨"PostsFilledModel", "payOf", "(I)I"⟩, prog_11_method_43_code, 2, (some .int))
abbrev zy_M_people : zY := (⟨"PostsFilledModel", "people", "(IIII)I"⟩, prog_11_method_77_code, 8, (some .int))
abbrev zy_M_person : zY := (⟨"PostsFilledModel", "person", "(II)I"⟩, prog_11_method_8_code, 3, (some .int))
abbrev zy_M_post : zY := (⟨"PostsFilledModel", "post", "(II)I"⟩, prog_11_method_6_code, 3, (some .int))
abbrev zy_M_reckon : zY := (⟨"PostsFilledModel", "reckon", "(III)I"⟩, prog_11_method_38_code, 3, (some .int))
abbrev zy_M_ring : zY := (⟨"PostsFilledModel", "ring", "()I"⟩, prog_11_method_62_code, 3, (some .int))
abbrev zy_M_says : zY := (⟨"PostsFilledModel", "says", "(III)I"⟩, prog_11_method_39_code, 7, (some .int))
abbrev zy_M_sheet : zY := (⟨"PostsFilledModel", "sheet", "(III)I"⟩, prog_11_method_74_code, 5, (some .int))
abbrev zy_M_sum : zY := (⟨"PostsFilledModel", "sum", "()V"⟩, prog_11_method_32_code, 2, none)
abbrev zy_M_sure : zY := (⟨"PostsFilledModel", "sure", "(I)J"⟩, prog_11_method_64_code, 10, (some .long))
abbrev zy_M_taken : zY := (⟨"PostsFilledModel", "taken", "(II)I"⟩, prog_11_method_79_code, 4, (some .int))
abbrev zy_M_taughtMany : zY := (⟨"PostsFilledModel", "taughtMany", "(I)I"⟩, prog_11_method_10_code, 4, (some .int))
abbrev zy_M_teach : zY := (⟨"PostsFilledModel", "teach", "(II)I"⟩, prog_11_method_11_code, 3, (some .int))
abbrev zy_M_term : zY := (⟨"PostsFilledModel", "term", "()V"⟩, prog_11_method_31_code, 1, none)
abbrev zy_M_text : zY := (⟨"PostsFilledModel", "text", "()I"⟩, prog_11_method_36_code, 2, (some .int))
abbrev zy_M_told : zY := (⟨"PostsFilledModel", "told", "(III)I"⟩, prog_11_method_17_code, 4, (some .int))
abbrev zy_M_tries : zY := (⟨"PostsFilledModel", "tries", "(III)V"⟩, prog_11_method_59_code, 5, none)
abbrev zy_M_tryLessons : zY := (⟨"PostsFilledModel", "tryLessons", "(II)V"⟩, prog_11_method_60_code, 5, none)
abbrev zy_M_wellOf : zY := (⟨"PostsFilledModel", "wellOf", "(II)I"⟩, prog_11_method_41_code, 3, (some .int))
abbrev zy_M_wordOf : zY := (⟨"PostsFilledModel", "wordOf", "()I"⟩, prog_11_method_20_code, 5, (some .int))
abbrev zy_M_worst : zY := (⟨"PostsFilledModel", "worst", "(II)I"⟩, prog_11_method_55_code, 6, (some .int))
abbrev zy_M_worstOf : zY := (⟨"PostsFilledModel", "worstOf", "(I)I"⟩, prog_11_method_53_code, 3, (some .int))
abbrev zy_M_wrong : zY := (⟨"PostsFilledModel", "wrong", "()V"⟩, prog_11_method_25_code, 1, none)
abbrev zy_M_years : zY := (⟨"PostsFilledModel", "years", "(I)I"⟩, prog_11_method_9_code, 2, (some .int))
abbrev zy_M_yearsOf : zY := (⟨"PostsFilledModel", "yearsOf", "(II)I"⟩, prog_11_method_14_code, 3, (some .int))
abbrev zy_Integer_bitCount : zY := (⟨"java/lang/Integer", "bitCount", "(I)I"⟩, prog_12_method_49_code, 1, (some .int))
abbrev zy_Math_abs : zY := (⟨"java/lang/Math", "abs", "(I)I"⟩, prog_13_method_59_code, 1, (some .int))
abbrev zy_Math_max : zY := (⟨"java/lang/Math", "max", "(II)I"⟩, prog_13_method_65_code, 2, (some .int))
abbrev zy_Math_min : zY := (⟨"java/lang/Math", "min", "(II)I"⟩, prog_13_method_69_code, 2, (some .int))
abbrev zy_String_charAt : zY := (⟨"java/lang/String", "charAt", "(I)C"⟩, prog_14_method_56_code, 2, (some .char))
abbrev zy_String_checkIndex : zY := (⟨"java/lang/String", "checkIndex", "(II)V"⟩, prog_14_method_155_code, 2, none)
abbrev zy_String_coder : zY := (⟨"java/lang/String", "coder", "()B"⟩, prog_14_method_152_code, 1, (some .byte))
abbrev zy_String_isLatin1 : zY := (⟨"java/lang/String", "isLatin1", "()Z"⟩, prog_14_method_154_code, 1, (some .boolean))
abbrev zy_String_length : zY := (⟨"java/lang/String", "length", "()I"⟩, prog_14_method_54_code, 1, (some .int))
abbrev zy_StringLatin1_charAt : zY := (⟨"java/lang/StringLatin1", "charAt", "([BI)C"⟩, prog_15_method_2_code, 2, (some .char))
abbrev zy_StringUTF16_charAt : zY := (⟨"java/lang/StringUTF16", "charAt", "([BI)C"⟩, prog_16_method_83_code, 2, (some .char))
abbrev zy_StringUTF16_checkIndex : zY := (⟨"java/lang/StringUTF16", "checkIndex", "(I[B)V"⟩, prog_16_method_91_code, 2, none)
abbrev zy_StringUTF16_getChar : zY := (⟨"java/lang/StringUTF16", "getChar", "([BI)C"⟩, prog_16_method_5_code, 2, (some .char))
abbrev zy_StringUTF16_length : zY := (⟨"java/lang/StringUTF16", "length", "([B)I"⟩, prog_16_method_6_code, 1, (some .int))
abbrev zy_Arrays_fill : zY := (⟨"java/util/Arrays", "fill", "([II)V"⟩, prog_18_method_103_code, 4, none)
abbrev zy_Preconditions_checkIndex : zY := (⟨"jdk/internal/util/Preconditions", "checkIndex", "(IILjava/util/function/BiFunction;)I"⟩, prog_19_method_11_code, 3, (some .int))
end
section
/-! MEMORY AS FUNCTIONS, CODE AS FUNCTIONAL PROGRAMS. The heap from the law's entry on is a list of kinds (what each cell is) and three functions (ints, longs, references) by cell and place; zJ says: the code at pc, from this state on, does what the program f says. -/
abbrev zK : Type := (FieldType × Nat) ⊕ Nat
abbrev zS : Type := List zK × (Nat → Nat → Int32) × (Nat → Nat → Int64) × (Nat → Nat → Option Nat)
/-- launch, the classes' numbers and slots, the arrays' classes, the first own address, old rows of ints, the address of UNDER, the Strings' and their bytes' addresses -/
abbrev zG : Type := Launch × va_G × (FieldType → ClassId) × Nat × List (Nat × Nat × (Nat → Int32)) × Nat × (Nat → Nat) × (Nat → Nat)
abbrev zB (g : zG) : Nat := g.2.2.2.1
abbrev zA (g : zG) : Nat → Prop := fun a => zB g ≤ a
def zr (g : zG) (r : Option Nat) : Value := va_rf (r.map (fun a => zB g + a))
def zv (g : zG) (μ : zS) (a j : Nat) (ty : FieldType) : Value := match ty with
  | .long => .long (μ.2.2.1 a j)
  | .object _ => zr g (μ.2.2.2 a j)
  | .array _ => zr g (μ.2.2.2 a j)
  | _ => .int (μ.2.1 a j)
def zfs (g : zG) (μ : zS) (a : Nat) (tys : List FieldType) : List Value := tys.zipIdx.map (fun q => zv g μ a q.2 q.1)
def zar (g : zG) (μ : zS) (a : Nat) (ty : FieldType) : (Nat → Int32) ⊕ (Nat → Int64) ⊕ (Nat → UInt32) ⊕ (Nat → UInt64) ⊕ (Nat → Option Nat) := match ty with
  | .long => .inr (.inl (μ.2.2.1 a))
  | .object _ => .inr (.inr (.inr (.inr (fun j => (μ.2.2.2 a j).map (fun q => zB g + q)))))
  | _ => .inl (μ.2.1 a)
def zE (g : zG) (μ : zS) (a : Nat) (k : zK) : va_E := match k with
  | .inl q => .inl (g.2.2.1 q.1, q.2, zar g μ a q.1)
  | .inr ci => .inr (ci, zfs g μ a (zft ci))
def zWs (g : zG) (μ : zS) : va_W := μ.1.zipIdx.map (fun q => (zB g + q.2, zE g μ q.2 q.1))
def zR (g : zG) (μ : zS) (H : Heap) : Prop := H.size = zB g + μ.1.length ∧ va_P g.2.1 vwCl (zWs g μ) H
def ztys (g : zG) : List (ClassId × FieldType) := [(g.2.2.1 .int, .int), (g.2.2.1 .boolean, .boolean), (g.2.2.1 .char, .char), (g.2.2.1 .long, .long), (g.2.2.1 (.object "PostsFilled$Person"), .object "PostsFilled$Person"), (g.2.2.1 (.object "PostsFilled$Text"), .object "PostsFilled$Text"), (g.2.2.1 (.object "PostsFilled$Sheet"), .object "PostsFilled$Sheet")]
/-- UNDER -/
def zUnd (j : Nat) : Int32 := [-1, 0, 0, 1, 2, 0].getD j 0
def zlen : List Nat := [75, 60]
def zcd (c : Char) : Int32 := Int32.ofNat c.toNat
def zt1 : String := "well 5 + own * 5 - years * ( 1 - own ) ; cost 3 + value - number ; pay 10 ;"
def zt2 : String := "own number years must value taught well cost pay or and not "
def zbyt : List (List Int32) := [zt1.toList.map zcd, zt2.toList.map zcd]
/-- what was there before the law began: rows of ints, UNDER, the Strings, and words that a call does not carry by itself -/
def zOld (g : zG) (U : State) : Prop :=
  (∀ q ∈ g.2.2.2.2.1, va_T .int q.1 q.2.1 (fun j => .int (q.2.2 j)) (zA g) U U.heap) ∧ (va_Z "PostsFilled$Person" "UNDER" "[I" (.ref g.2.2.2.2.2.1) (zA g) U U.heap ∧ va_T .int g.2.2.2.2.2.1 6 (fun j => .int (zUnd j)) (zA g) U U.heap) ∧ va_Z "java/lang/String" "COMPACT_STRINGS" "Z" (.int 1) (zA g) U U.heap ∧
  vk_S 2 zlen zbyt g.2.2.2.2.2.2.1 g.2.2.2.2.2.2.2 (zA g) U U.heap ∧ vk_R "PostsFilled" 94 zt1 (g.2.2.2.2.2.2.1 0) U ∧ vk_R "PostsFilled$Reader" 100 zt2 (g.2.2.2.2.2.2.1 1) U ∧ (∀ (a : String) (i : Nat) (x : MethodName) (h : String), Cond.methodLinkNest a i x h ∈ lw_tbl → va_Nw (.methodLinkNest a i x h) U) ∧
  va_AO "PostsFilled$Person" U ∧ va_AO "PostsFilled$Text" U ∧ va_AO "PostsFilled$Sheet" U
def zC (g : zG) (y : zY) (p : Program) (s : State) (m : MethodId) (args : Array Value) (meth : Method) (c : Code) : Prop :=
  p.tables.exec = Jvm.exec ∧ c.code = y.2.1 ∧ meth.sig.returnType = y.2.2.2 ∧ c.maxLocals = y.2.2.1 ∧ s.vm.findClass y.1.cls = some m.cls ∧ (∀ w ∈ gtbl, w.before args s = true) ∧ va_K g.2.1 vwCl (ztys g) s ∧ meth.locks = false ∧ meth.name = y.1.name ∧ zB g ≤ s.heap.size ∧ zOld g s
def zLs (A : Array Slot) (n : Nat) (ls : List (Option Value)) : Prop := A.size = n ∧ lv_wf A ∧ ∀ (i : Nat) (v : Value), ls[i]? = some (some v) → A[i]? = some (.val v)
abbrev zRm (d mc ms : Nat) : Room := { frames := d, cells := mc, slots := ms, locals := 80 * d }
def zQ (g : zG) (mc : Nat) (ov : Option Value) (μ1 : zS) : Array Value → State → Outcome → State → Prop := fun _ st oc t => oc = .returned ov ∧ zR g μ1 t.heap ∧ va_F (zA g) st t ∧ st.heap.size + mc ≤ t.heap.size
/-- from this state the method ends with the answer ov and the memory μ1 -/
def zW (g : zG) (y : zY) (d mc ms : Nat) (ov : Option Value) (μ1 : zS) (k n pc : Nat) (ls : List (Option Value)) (st : List Value) (μ : zS) : Prop :=
  ∀ (p : Program) (e : Env) (s : State) (m : MethodId) (args : Array Value) (below : List Frame) (meth : Method) (c : Code) (H : Heap) (locs : List Loc) (A : Array Slot), zC g y p s m args meth c → zR g μ H → va_S (zA g) s.heap H locs → zLs A y.2.2.1 ls → s.heap.size + k ≤ zB g + μ.1.length →
    W p g.1 e (zRm d mc ms) s m args below meth c H locs k n (MQ below (zQ g mc ov μ1) args s mc ms (zA g)) (F0 m pc A st)
def zJ {τ : Type} (g : zG) (y : zY) (d mc ms : Nat) (w : τ → Option Value × zS) (o : τ) (k n pc : Nat) (ls : List (Option Value)) (st : List Value) (μ : zS) (f : Option τ) : Prop := f = some o → zW g y d mc ms (w o).1 (w o).2 k n pc ls st μ
def zws (y : zY) : List Cond := .code y.1 y.2.1 y.2.2.1 y.2.2.2 :: gtbl
def zU (g : zG) (μ : zS) (U : State) : Prop := zB g ≤ U.heap.size ∧ zR g μ U.heap ∧ va_K g.2.1 vwCl (ztys g) U ∧ zOld g U
def zMt (g : zG) (y : zY) (d mc ms : Nat) (av : List Value) (μ : zS) (ov : Option Value) (μ1 : zS) : Prop := Met g.1 y.1 (zws y) (zRm d mc ms) (va_Pc av (zU g μ)) (zQ g mc ov μ1) mc ms (zA g)
def zwI : Int32 × zS → Option Value × zS := fun q => (some (.int q.1), q.2)
def zwJ : Int64 × zS → Option Value × zS := fun q => (some (.long q.1), q.2)
def zwV : zS → Option Value × zS := fun u => (none, u)
def zwIp (μ : zS) : Int32 → Option Value × zS := fun v => (some (.int v), μ)
def zwJp (μ : zS) : Int64 → Option Value × zS := fun v => (some (.long v), μ)
-- ===== lists =====
theorem zWs_at (g : zG) (μ : zS) (k : Nat) : (zWs g μ)[k]? = (μ.1[k]?).map (fun K => (zB g + k, zE g μ k K)) := by
  unfold zWs
  rw [List.getElem?_map, List.getElem?_zipIdx]
  cases μ.1[k]? with
  | none => rfl
  | some K => simp
theorem zWs_get {g : zG} {μ : zS} {a : Nat} {K : zK} (h : μ.1[a]? = some K) : (zWs g μ)[a]? = some (zB g + a, zE g μ a K) := by rw [zWs_at, h]; rfl
theorem zfs_at (g : zG) (μ : zS) (a : Nat) (tys : List FieldType) (k : Nat) : (zfs g μ a tys)[k]? = (tys[k]?).map (fun ty => zv g μ a k ty) := by
  unfold zfs
  rw [List.getElem?_map, List.getElem?_zipIdx]
  cases tys[k]? with
  | none => rfl
  | some K => simp
theorem zfs_len (g : zG) (μ : zS) (a : Nat) (tys : List FieldType) : (zfs g μ a tys).length = tys.length := by simp [zfs]
theorem zD {g : zG} (μ : zS) : va_D (zA g) (zWs g μ) := by
  have key : ∀ (k : Nat) (q : Nat × va_E), (zWs g μ)[k]? = some q → q.1 = zB g + k := by
    intro k q h
    rw [zWs_at] at h
    cases hk : μ.1[k]? with
    | none => rw [hk] at h; cases h
    | some K => rw [hk] at h; cases h; rfl
  refine ⟨fun i j p q hp hq e => ?_, fun k q h => ?_⟩
  · have h1 := key i p hp
    have h2 := key j q hq
    omega
  · have := key k q h
    show zB g ≤ q.1
    omega
-- ===== old things stay =====
theorem zOld.moved {g : zG} {s U : State} {locs : List Loc} (hW : s.WarmedH U.vm) (hS : va_S (zA g) s.heap U.heap locs) (h : zOld g s) : zOld g U := by
  obtain ⟨h1, h2, h3, h4, h5, h6, h7, h8, h9, h10⟩ := h
  have hk : ∀ a : Nat, a < s.heap.size → ¬ zA g a → U.heap[a]? = s.heap[a]? := fun a h1 h2 => hS.2.1 a h1 h2
  have hal := hW.alike
  refine ⟨fun q hq => ((h1 q hq).moved hal).kept hk, ⟨(h2.1.moved hal).kept hk, (h2.2.moved hal).kept hk⟩, (h3.moved hal).kept hk, (h4.moved hal).kept hk, h5.warm hW, h6.warm hW, fun a i x h hw => va_Nw.warmM hW (h7 a i x h hw), h8.moved hal, h9.moved hal, h10.moved hal⟩
end
section
-- ===== locals =====
def zpr (ls : List (Option Value)) : List (Nat × Value) := ls.zipIdx.filterMap (fun q => q.1.map (fun v => (q.2, v)))
theorem zpr_mem {ls : List (Option Value)} {i : Nat} {v : Value} : (i, v) ∈ zpr ls ↔ ls[i]? = some (some v) := by
  unfold zpr
  rw [List.mem_filterMap]
  constructor
  · rintro ⟨⟨ov, j⟩, hm, he⟩
    have h1 := List.mem_zipIdx_iff_getElem?.mp hm
    cases ov with
    | none => cases he
    | some w => cases he; exact h1
  · intro h
    exact ⟨(some v, i), List.mem_zipIdx_iff_getElem?.mpr h, rfl⟩
theorem zLs.has {A : Array Slot} {n : Nat} {ls : List (Option Value)} (h : zLs A n ls) : lv_has A n (zpr ls) := ⟨h.1, h.2.1, fun q hq => h.2.2 q.1 q.2 (zpr_mem.mp hq)⟩
/-- the place ahead holds no long -/
def zNL (ls : List (Option Value)) (i : Nat) : Bool := match i with
  | 0 => true
  | j + 1 => match ls[j]? with
    | some (some v) => v.category == 1
    | _ => true
theorem zLs.st1 {A : Array Slot} {n i : Nat} {ls : List (Option Value)} {v : Value} (hnl : zNL ls i = true) (h : lv_has A n ((i, v) :: (zpr ls).filter (fun q => !(q.1 == i) && !(q.1 + 1 == i && q.2.category == 2)))) : zLs A n (ls.set i (some v)) := by
  refine ⟨h.1, h.2.1, fun j w hj => ?_⟩
  by_cases hij : i = j
  · subst hij
    by_cases hlt : i < ls.length
    · rw [List.getElem?_set_self hlt] at hj
      cases hj
      exact h.2.2 (i, v) List.mem_cons_self
    · rw [List.getElem?_eq_none (by simp; omega)] at hj
      cases hj
  · rw [List.getElem?_set_ne hij] at hj
    refine h.2.2 (j, w) (List.mem_cons_of_mem _ (List.mem_filter.mpr ⟨zpr_mem.mpr hj, ?_⟩))
    have h1 : (j == i) = false := by simp; exact fun q => hij q.symm
    by_cases h2 : j + 1 = i
    · subst h2
      simp only [zNL, hj, beq_iff_eq] at hnl
      simp [hnl]
    · simp [h2]; exact fun q => hij q.symm
theorem zLs.st2 {A : Array Slot} {n i : Nat} {ls : List (Option Value)} {v : Value} (hnl : zNL ls i = true) (h : lv_has A n ((i, v) :: (zpr ls).filter (fun q => !(q.1 == i) && (!(q.1 == i + 1) && !(q.1 + 1 == i && q.2.category == 2))))) : zLs A n ((ls.set i (some v)).set (i + 1) none) := by
  refine ⟨h.1, h.2.1, fun j w hj => ?_⟩
  by_cases hj2 : i + 1 = j
  · subst hj2
    by_cases hlt : i + 1 < (ls.set i (some v)).length
    · rw [List.getElem?_set_self hlt] at hj
      cases hj
    · rw [List.getElem?_eq_none (by simp at hlt ⊢; omega)] at hj
      cases hj
  · rw [List.getElem?_set_ne hj2] at hj
    by_cases hij : i = j
    · subst hij
      by_cases hlt : i < ls.length
      · rw [List.getElem?_set_self hlt] at hj
        cases hj
        exact h.2.2 (i, v) List.mem_cons_self
      · rw [List.getElem?_eq_none (by simp; omega)] at hj
        cases hj
    · rw [List.getElem?_set_ne hij] at hj
      refine h.2.2 (j, w) (List.mem_cons_of_mem _ (List.mem_filter.mpr ⟨zpr_mem.mpr hj, ?_⟩))
      by_cases h2 : j + 1 = i
      · subst h2
        simp only [zNL, hj, beq_iff_eq] at hnl
        simp [hnl]
        omega
      · simp [h2]
        exact ⟨fun q => hij q.symm, fun q => hj2 q.symm⟩
theorem zLs.sub {A : Array Slot} {n : Nat} {ls ls' : List (Option Value)} (h : zLs A n ls) (hs : ∀ (i : Nat) (v : Value), ls'[i]? = some (some v) → ls[i]? = some (some v)) : zLs A n ls' := ⟨h.1, h.2.1, fun i v hv => h.2.2 i v (hs i v hv)⟩
section ZR
variable {τ : Type} {g : zG} {y : zY} {d mc ms : Nat} {w : τ → Option Value × zS} {o : τ} {k n pc : Nat} {ls : List (Option Value)} {st : List Value} {μ : zS} {f f1 f2 : Option τ}
/-- an instruction that leaves heap and locals -/
theorem zj_s {pc2 : Nat} {st2 : List Value} (h : ∀ (p : Program) (e : Env) (s : State) (m : MethodId) (args : Array Value) (below : List Frame) (meth : Method) (c : Code) (H : Heap) (locs : List Loc) (A : Array Slot) (Q : State → Prop), zC g y p s m args meth c → zLs A y.2.2.1 ls → W p g.1 e (zRm d mc ms) s m args below meth c H locs k n Q (F0 m pc2 A st2) → W p g.1 e (zRm d mc ms) s m args below meth c H locs k n Q (F0 m pc A st))
    (kk : zJ g y d mc ms w o k n pc2 ls st2 μ f) : zJ g y d mc ms w o k n pc ls st μ f :=
  fun hf p e s m args below meth c H locs A hC hR hS hl hk => h p e s m args below meth c H locs A _ hC hl (kk hf p e s m args below meth c H locs A hC hR hS hl hk)
theorem zj_iconst {i : Int} (v : Int32) (hd : decode y.2.1 pc = .ok (.iconst i, 1)) (hv : Int32.ofInt i = v) (kk : zJ g y d mc ms w o k n (pc + 1) ls (.int v :: st) μ f) : zJ g y d mc ms w o k n pc ls st μ f := zj_s (fun _ _ _ _ _ _ _ _ _ _ _ _ hC _ k => lv_iconst hC.1 hC.2.1 hd hv k) kk
theorem zj_bipush {i : Int} (v : Int32) (hd : decode y.2.1 pc = .ok (.bipush i, 2)) (hv : (Int8.ofInt i).toInt32 = v) (kk : zJ g y d mc ms w o k n (pc + 2) ls (.int v :: st) μ f) : zJ g y d mc ms w o k n pc ls st μ f := zj_s (fun _ _ _ _ _ _ _ _ _ _ _ _ hC _ k => lv_bipush hC.1 hC.2.1 hd hv k) kk
theorem zj_sipush {i : Int} (v : Int32) (hd : decode y.2.1 pc = .ok (.sipush i, 3)) (hv : (Int16.ofInt i).toInt32 = v) (kk : zJ g y d mc ms w o k n (pc + 3) ls (.int v :: st) μ f) : zJ g y d mc ms w o k n pc ls st μ f := zj_s (fun _ _ _ _ _ _ _ _ _ _ _ _ hC _ k => lv_sipush hC.1 hC.2.1 hd hv k) kk
theorem zj_lconst {i : Fin 2} (v : Int64) (hd : decode y.2.1 pc = .ok (.lconst i, 1)) (hv : Int64.ofNat (i : Nat) = v) (kk : zJ g y d mc ms w o k n (pc + 1) ls (.long v :: st) μ f) : zJ g y d mc ms w o k n pc ls st μ f := zj_s (fun _ _ _ _ _ _ _ _ _ _ _ _ hC _ k => lv_lconst hC.1 hC.2.1 hd hv k) kk
theorem zj_ldc2 {i : Nat} {v : Int64} (hc : Cond.constantLong y.1.cls i v ∈ gtbl) (hd : decode y.2.1 pc = .ok (.ldc2_w i, 3)) (kk : zJ g y d mc ms w o k n (pc + 3) ls (.long v :: st) μ f) : zJ g y d mc ms w o k n pc ls st μ f := zj_s (fun _ _ _ _ _ _ _ _ _ _ _ _ hC _ k => lv_ldc2 hC.1 hC.2.1 hC.2.2.2.2.1 (hC.2.2.2.2.2.1 _ hc) hd k) kk
theorem zj_ldcw {i : Nat} {v : Int32} (hc : Cond.constant y.1.cls i v ∈ gtbl) (hd : decode y.2.1 pc = .ok (.ldc_w i, 3)) (kk : zJ g y d mc ms w o k n (pc + 3) ls (.int v :: st) μ f) : zJ g y d mc ms w o k n pc ls st μ f := zj_s (fun _ _ _ _ _ _ _ _ _ _ _ _ hC _ k => lv_ldcw hC.1 hC.2.1 hC.2.2.2.2.1 (hC.2.2.2.2.2.1 _ hc) hd k) kk
theorem zj_ldcS0 {i : Nat} (hi : y.1.cls = "PostsFilled" ∧ i = 94) (hd : decode y.2.1 pc = .ok (.ldc i, 2)) (kk : zJ g y d mc ms w o k n (pc + 2) ls (.ref (g.2.2.2.2.2.2.1 0) :: st) μ f) : zJ g y d mc ms w o k n pc ls st μ f := zj_s (fun _ _ _ _ _ _ _ _ _ _ _ _ hC _ k => va_ldcS (own := "PostsFilled") (index := i) hC.1 hC.2.1 (hi.1 ▸ hC.2.2.2.2.1) (hi.2 ▸ hC.2.2.2.2.2.2.2.2.2.2.2.2.2.2.1) hd k) kk
theorem zj_ldcS1 {i : Nat} (hi : y.1.cls = "PostsFilled$Reader" ∧ i = 100) (hd : decode y.2.1 pc = .ok (.ldc i, 2)) (kk : zJ g y d mc ms w o k n (pc + 2) ls (.ref (g.2.2.2.2.2.2.1 1) :: st) μ f) : zJ g y d mc ms w o k n pc ls st μ f := zj_s (fun _ _ _ _ _ _ _ _ _ _ _ _ hC _ k => va_ldcS (own := "PostsFilled$Reader") (index := i) hC.1 hC.2.1 (hi.1 ▸ hC.2.2.2.2.1) (hi.2 ▸ hC.2.2.2.2.2.2.2.2.2.2.2.2.2.2.2.1) hd k) kk
theorem zj_iload_n {q : Fin 4} {x : Int32} (hd : decode y.2.1 pc = .ok (.iload_n q, 1)) (hl : ls[(q : Nat)]? = some (some (.int x))) (kk : zJ g y d mc ms w o k n (pc + 1) ls (.int x :: st) μ f) : zJ g y d mc ms w o k n pc ls st μ f := zj_s (fun _ _ _ _ _ _ _ _ _ _ _ _ hC hA k => lv_iload_n hC.1 hC.2.1 hd rfl (hA.2.2 _ _ hl) k) kk
theorem zj_iload {q : Nat} {x : Int32} (hd : decode y.2.1 pc = .ok (.iload q, 2)) (hl : ls[q]? = some (some (.int x))) (kk : zJ g y d mc ms w o k n (pc + 2) ls (.int x :: st) μ f) : zJ g y d mc ms w o k n pc ls st μ f := zj_s (fun _ _ _ _ _ _ _ _ _ _ _ _ hC hA k => lv_iload hC.1 hC.2.1 hd (hA.2.2 _ _ hl) k) kk
theorem zj_lload_n {q : Fin 4} {x : Int64} (hd : decode y.2.1 pc = .ok (.lload_n q, 1)) (hl : ls[(q : Nat)]? = some (some (.long x))) (kk : zJ g y d mc ms w o k n (pc + 1) ls (.long x :: st) μ f) : zJ g y d mc ms w o k n pc ls st μ f := zj_s (fun _ _ _ _ _ _ _ _ _ _ _ _ hC hA k => lv_lload_n hC.1 hC.2.1 hd rfl (hA.2.2 _ _ hl) k) kk
theorem zj_lload {q : Nat} {x : Int64} (hd : decode y.2.1 pc = .ok (.lload q, 2)) (hl : ls[q]? = some (some (.long x))) (kk : zJ g y d mc ms w o k n (pc + 2) ls (.long x :: st) μ f) : zJ g y d mc ms w o k n pc ls st μ f := zj_s (fun _ _ _ _ _ _ _ _ _ _ _ _ hC hA k => lv_lload hC.1 hC.2.1 hd (hA.2.2 _ _ hl) k) kk
theorem zj_aload_n {q : Fin 4} {x : Option Nat} (hd : decode y.2.1 pc = .ok (.aload_n q, 1)) (hl : ls[(q : Nat)]? = some (some (zr g x))) (kk : zJ g y d mc ms w o k n (pc + 1) ls (zr g x :: st) μ f) : zJ g y d mc ms w o k n pc ls st μ f := zj_s (fun _ _ _ _ _ _ _ _ _ _ _ _ hC hA k => by
  cases x with
  | none => exact lv_aload_nN hC.1 hC.2.1 hd rfl (hA.2.2 _ _ hl) k
  | some a => exact lv_aload_n hC.1 hC.2.1 hd rfl (hA.2.2 _ _ hl) k) kk
theorem zj_aload {q : Nat} {x : Option Nat} (hd : decode y.2.1 pc = .ok (.aload q, 2)) (hl : ls[q]? = some (some (zr g x))) (kk : zJ g y d mc ms w o k n (pc + 2) ls (zr g x :: st) μ f) : zJ g y d mc ms w o k n pc ls st μ f := zj_s (fun _ _ _ _ _ _ _ _ _ _ _ _ hC hA k => by
  cases x with
  | none => exact lv_aloadN hC.1 hC.2.1 hd (hA.2.2 _ _ hl) k
  | some a => exact lv_aload hC.1 hC.2.1 hd (hA.2.2 _ _ hl) k) kk
theorem zj_aload_o {q : Fin 4} {x : Nat} (hd : decode y.2.1 pc = .ok (.aload_n q, 1)) (hl : ls[(q : Nat)]? = some (some (.ref x))) (kk : zJ g y d mc ms w o k n (pc + 1) ls (.ref x :: st) μ f) : zJ g y d mc ms w o k n pc ls st μ f := zj_s (fun _ _ _ _ _ _ _ _ _ _ _ _ hC hA k => lv_aload_n hC.1 hC.2.1 hd rfl (hA.2.2 _ _ hl) k) kk
/-- an instruction that stores a local -/
theorem zj_l {pc2 : Nat} {st2 : List Value} {ls2 : List (Option Value)} (h : ∀ (p : Program) (e : Env) (s : State) (m : MethodId) (args : Array Value) (below : List Frame) (meth : Method) (c : Code) (H : Heap) (locs : List Loc) (A : Array Slot) (Q : State → Prop), zC g y p s m args meth c → zLs A y.2.2.1 ls → (∀ A2, zLs A2 y.2.2.1 ls2 → W p g.1 e (zRm d mc ms) s m args below meth c H locs k n Q (F0 m pc2 A2 st2)) → W p g.1 e (zRm d mc ms) s m args below meth c H locs k n Q (F0 m pc A st))
    (kk : zJ g y d mc ms w o k n pc2 ls2 st2 μ f) : zJ g y d mc ms w o k n pc ls st μ f :=
  fun hf p e s m args below meth c H locs A hC hR hS hl hk => h p e s m args below meth c H locs A _ hC hl (fun A2 hl2 => kk hf p e s m args below meth c H locs A2 hC hR hS hl2 hk)
theorem zj_istore_n {q : Fin 4} {x : Int32} (ls2 : List (Option Value)) (hd : decode y.2.1 pc = .ok (.istore_n q, 1)) (hi : (q : Nat) < y.2.2.1) (hnl : zNL ls q = true) (hs : ls.set q (some (.int x)) = ls2) (kk : zJ g y d mc ms w o k n (pc + 1) ls2 st μ f) : zJ g y d mc ms w o k n pc ls (.int x :: st) μ f := zj_l (fun _ _ _ _ _ _ _ _ _ _ _ _ hC hA k => lv_istore_n hC.1 hC.2.1 hd rfl hA.has hi rfl (fun A2 h2 => k A2 (hs ▸ zLs.st1 hnl h2))) kk
theorem zj_istore {q : Nat} {x : Int32} (ls2 : List (Option Value)) (hd : decode y.2.1 pc = .ok (.istore q, 2)) (hi : q < y.2.2.1) (hnl : zNL ls q = true) (hs : ls.set q (some (.int x)) = ls2) (kk : zJ g y d mc ms w o k n (pc + 2) ls2 st μ f) : zJ g y d mc ms w o k n pc ls (.int x :: st) μ f := zj_l (fun _ _ _ _ _ _ _ _ _ _ _ _ hC hA k => lv_istore hC.1 hC.2.1 hd hA.has hi rfl (fun A2 h2 => k A2 (hs ▸ zLs.st1 hnl h2))) kk
theorem zj_astore_n {q : Fin 4} {x : Option Nat} (ls2 : List (Option Value)) (hd : decode y.2.1 pc = .ok (.astore_n q, 1)) (hi : (q : Nat) < y.2.2.1) (hnl : zNL ls q = true) (hs : ls.set q (some (zr g x)) = ls2) (kk : zJ g y d mc ms w o k n (pc + 1) ls2 st μ f) : zJ g y d mc ms w o k n pc ls (zr g x :: st) μ f := zj_l (fun _ _ _ _ _ _ _ _ _ _ _ _ hC hA k => by
  cases x with
  | none => exact lv_astore_nN hC.1 hC.2.1 hd rfl hA.has hi rfl (fun A2 h2 => k A2 (hs ▸ zLs.st1 hnl h2))
  | some a => exact lv_astore_n hC.1 hC.2.1 hd rfl hA.has hi rfl (fun A2 h2 => k A2 (hs ▸ zLs.st1 hnl h2))) kk
theorem zj_astore {q : Nat} {x : Option Nat} (ls2 : List (Option Value)) (hd : decode y.2.1 pc = .ok (.astore q, 2)) (hi : q < y.2.2.1) (hnl : zNL ls q = true) (hs : ls.set q (some (zr g x)) = ls2) (kk : zJ g y d mc ms w o k n (pc + 2) ls2 st μ f) : zJ g y d mc ms w o k n pc ls (zr g x :: st) μ f := zj_l (fun _ _ _ _ _ _ _ _ _ _ _ _ hC hA k => by
  cases x with
  | none => exact lv_astoreN hC.1 hC.2.1 hd hA.has hi rfl (fun A2 h2 => k A2 (hs ▸ zLs.st1 hnl h2))
  | some a => exact lv_astore hC.1 hC.2.1 hd hA.has hi rfl (fun A2 h2 => k A2 (hs ▸ zLs.st1 hnl h2))) kk
theorem zj_lstore_n {q : Fin 4} {x : Int64} (ls2 : List (Option Value)) (hd : decode y.2.1 pc = .ok (.lstore_n q, 1)) (hi : (q : Nat) + 1 < y.2.2.1) (hnl : zNL ls q = true) (hs : (ls.set q (some (.long x))).set (q + 1) none = ls2) (kk : zJ g y d mc ms w o k n (pc + 1) ls2 st μ f) : zJ g y d mc ms w o k n pc ls (.long x :: st) μ f := zj_l (fun _ _ _ _ _ _ _ _ _ _ _ _ hC hA k => lv_lstore_n hC.1 hC.2.1 hd rfl hA.has hi rfl (fun A2 h2 => k A2 (hs ▸ zLs.st2 hnl h2))) kk
theorem zj_lstore {q : Nat} {x : Int64} (ls2 : List (Option Value)) (hd : decode y.2.1 pc = .ok (.lstore q, 2)) (hi : q + 1 < y.2.2.1) (hnl : zNL ls q = true) (hs : (ls.set q (some (.long x))).set (q + 1) none = ls2) (kk : zJ g y d mc ms w o k n (pc + 2) ls2 st μ f) : zJ g y d mc ms w o k n pc ls (.long x :: st) μ f := zj_l (fun _ _ _ _ _ _ _ _ _ _ _ _ hC hA k => lv_lstore hC.1 hC.2.1 hd hA.has hi rfl (fun A2 h2 => k A2 (hs ▸ zLs.st2 hnl h2))) kk
theorem zj_iinc {q : Nat} {i : Int} {x v : Int32} (ls2 : List (Option Value)) (hd : decode y.2.1 pc = .ok (.iinc q i, 3)) (hl : ls[q]? = some (some (.int x))) (hv : x + Int32.ofInt i = v) (hi : q < y.2.2.1) (hnl : zNL ls q = true) (hs : ls.set q (some (.int v)) = ls2) (kk : zJ g y d mc ms w o k n (pc + 3) ls2 st μ f) : zJ g y d mc ms w o k n pc ls st μ f := zj_l (fun _ _ _ _ _ _ _ _ _ _ _ _ hC hA k => by
  obtain ⟨j, hj⟩ := List.getElem?_of_mem (zpr_mem.mpr hl)
  exact lv_iinc hC.1 hC.2.1 hd hA.has hj hv hi rfl (fun A2 h2 => k A2 (hs ▸ zLs.st1 hnl h2))) kk
/-- fewer locals -/
theorem zj_sub (ls2 : List (Option Value)) (hs : ∀ (i : Nat) (v : Value), ls2[i]? = some (some v) → ls[i]? = some (some v)) (kk : zJ g y d mc ms w o k n pc ls2 st μ f) : zJ g y d mc ms w o k n pc ls st μ f :=
  fun hf p e s m args below meth c H locs A hC hR hS hl hk => kk hf p e s m args below meth c H locs A hC hR hS (hl.sub hs) hk
end ZR
end
section
-- ===== fewer locals, by their places =====
def zle : List (Option Value) → List (Option Value) → Prop
  | [], _ => True
  | none :: r, _ :: s => zle r s
  | some v :: r, x :: s => x = some v ∧ zle r s
  | _ :: _, [] => False
theorem zle_at : ∀ {r s : List (Option Value)}, zle r s → ∀ (i : Nat) (v : Value), r[i]? = some (some v) → s[i]? = some (some v)
  | [], _, _, i, v, h => by simp at h
  | none :: r, x :: s, hz, i, v, h => by
    cases i with
    | zero => simp at h
    | succ i => simp at h ⊢; exact zle_at (r := r) (s := s) hz i v h
  | some u :: r, x :: s, hz, i, v, h => by
    cases i with
    | zero => simp at h ⊢; rw [hz.1, h]
    | succ i => simp at h ⊢; exact zle_at (r := r) (s := s) hz.2 i v h
  | none :: _, [], hz, _, _, _ => hz.elim
  | some _ :: _, [], hz, _, _, _ => hz.elim
section ZA
variable {τ : Type} {g : zG} {y : zY} {d mc ms : Nat} {w : τ → Option Value × zS} {o : τ} {k n pc : Nat} {ls : List (Option Value)} {st : List Value} {μ : zS} {f f1 f2 : Option τ}
theorem zj_cut (ls2 : List (Option Value)) (hs : zle ls2 ls) (kk : zJ g y d mc ms w o k n pc ls2 st μ f) : zJ g y d mc ms w o k n pc ls st μ f := zj_sub ls2 (zle_at hs) kk
theorem zj_iadd {a b : Int32} (hd : decode y.2.1 pc = .ok (.iadd, 1)) (kk : zJ g y d mc ms w o k n (pc + 1) ls (.int (a + b) :: st) μ f) : zJ g y d mc ms w o k n pc ls (.int b :: .int a :: st) μ f := zj_s (fun _ _ _ _ _ _ _ _ _ _ _ _ hC _ k => lv_iadd hC.1 hC.2.1 hd k) kk
theorem zj_isub {a b : Int32} (hd : decode y.2.1 pc = .ok (.isub, 1)) (kk : zJ g y d mc ms w o k n (pc + 1) ls (.int (a - b) :: st) μ f) : zJ g y d mc ms w o k n pc ls (.int b :: .int a :: st) μ f := zj_s (fun _ _ _ _ _ _ _ _ _ _ _ _ hC _ k => lv_isub hC.1 hC.2.1 hd k) kk
theorem zj_imul {a b : Int32} (hd : decode y.2.1 pc = .ok (.imul, 1)) (kk : zJ g y d mc ms w o k n (pc + 1) ls (.int (a * b) :: st) μ f) : zJ g y d mc ms w o k n pc ls (.int b :: .int a :: st) μ f := zj_s (fun _ _ _ _ _ _ _ _ _ _ _ _ hC _ k => lv_imul hC.1 hC.2.1 hd k) kk
theorem zj_iand {a b : Int32} (hd : decode y.2.1 pc = .ok (.iand, 1)) (kk : zJ g y d mc ms w o k n (pc + 1) ls (.int (a &&& b) :: st) μ f) : zJ g y d mc ms w o k n pc ls (.int b :: .int a :: st) μ f := zj_s (fun _ _ _ _ _ _ _ _ _ _ _ _ hC _ k => lv_iand hC.1 hC.2.1 hd k) kk
theorem zj_ior {a b : Int32} (hd : decode y.2.1 pc = .ok (.ior, 1)) (kk : zJ g y d mc ms w o k n (pc + 1) ls (.int (a ||| b) :: st) μ f) : zJ g y d mc ms w o k n pc ls (.int b :: .int a :: st) μ f := zj_s (fun _ _ _ _ _ _ _ _ _ _ _ _ hC _ k => lv_ior hC.1 hC.2.1 hd k) kk
theorem zj_ixor {a b : Int32} (hd : decode y.2.1 pc = .ok (.ixor, 1)) (kk : zJ g y d mc ms w o k n (pc + 1) ls (.int (a ^^^ b) :: st) μ f) : zJ g y d mc ms w o k n pc ls (.int b :: .int a :: st) μ f := zj_s (fun _ _ _ _ _ _ _ _ _ _ _ _ hC _ k => lv_ixor hC.1 hC.2.1 hd k) kk
theorem zj_ladd {a b : Int64} (hd : decode y.2.1 pc = .ok (.ladd, 1)) (kk : zJ g y d mc ms w o k n (pc + 1) ls (.long (a + b) :: st) μ f) : zJ g y d mc ms w o k n pc ls (.long b :: .long a :: st) μ f := zj_s (fun _ _ _ _ _ _ _ _ _ _ _ _ hC _ k => lv_ladd hC.1 hC.2.1 hd k) kk
theorem zj_lsub {a b : Int64} (hd : decode y.2.1 pc = .ok (.lsub, 1)) (kk : zJ g y d mc ms w o k n (pc + 1) ls (.long (a - b) :: st) μ f) : zJ g y d mc ms w o k n pc ls (.long b :: .long a :: st) μ f := zj_s (fun _ _ _ _ _ _ _ _ _ _ _ _ hC _ k => lv_lsub hC.1 hC.2.1 hd k) kk
theorem zj_lmul {a b : Int64} (hd : decode y.2.1 pc = .ok (.lmul, 1)) (kk : zJ g y d mc ms w o k n (pc + 1) ls (.long (a * b) :: st) μ f) : zJ g y d mc ms w o k n pc ls (.long b :: .long a :: st) μ f := zj_s (fun _ _ _ _ _ _ _ _ _ _ _ _ hC _ k => lv_lmul hC.1 hC.2.1 hd k) kk
theorem zj_land {a b : Int64} (hd : decode y.2.1 pc = .ok (.land, 1)) (kk : zJ g y d mc ms w o k n (pc + 1) ls (.long (a &&& b) :: st) μ f) : zJ g y d mc ms w o k n pc ls (.long b :: .long a :: st) μ f := zj_s (fun _ _ _ _ _ _ _ _ _ _ _ _ hC _ k => lv_land hC.1 hC.2.1 hd k) kk
theorem zj_lor {a b : Int64} (hd : decode y.2.1 pc = .ok (.lor, 1)) (kk : zJ g y d mc ms w o k n (pc + 1) ls (.long (a ||| b) :: st) μ f) : zJ g y d mc ms w o k n pc ls (.long b :: .long a :: st) μ f := zj_s (fun _ _ _ _ _ _ _ _ _ _ _ _ hC _ k => lv_lor hC.1 hC.2.1 hd k) kk
theorem zj_lxor {a b : Int64} (hd : decode y.2.1 pc = .ok (.lxor, 1)) (kk : zJ g y d mc ms w o k n (pc + 1) ls (.long (a ^^^ b) :: st) μ f) : zJ g y d mc ms w o k n pc ls (.long b :: .long a :: st) μ f := zj_s (fun _ _ _ _ _ _ _ _ _ _ _ _ hC _ k => lv_lxor hC.1 hC.2.1 hd k) kk
theorem zj_idiv {a b : Int32} (hd : decode y.2.1 pc = .ok (.idiv, 1)) (hne : ¬ b = 0) (kk : zJ g y d mc ms w o k n (pc + 1) ls (.int (a / b) :: st) μ f) : zJ g y d mc ms w o k n pc ls (.int b :: .int a :: st) μ f := zj_s (fun _ _ _ _ _ _ _ _ _ _ _ _ hC _ k => lv_idiv hC.1 hC.2.1 hd hne k) kk
theorem zj_irem {a b : Int32} (hd : decode y.2.1 pc = .ok (.irem, 1)) (hne : ¬ b = 0) (kk : zJ g y d mc ms w o k n (pc + 1) ls (.int (a - a / b * b) :: st) μ f) : zJ g y d mc ms w o k n pc ls (.int b :: .int a :: st) μ f := zj_s (fun _ _ _ _ _ _ _ _ _ _ _ _ hC _ k => lv_irem hC.1 hC.2.1 hd hne k) kk
theorem zj_ishl {a b : Int32} (hd : decode y.2.1 pc = .ok (.ishl, 1)) (kk : zJ g y d mc ms w o k n (pc + 1) ls (.int (a <<< (b &&& 31)) :: st) μ f) : zJ g y d mc ms w o k n pc ls (.int b :: .int a :: st) μ f := zj_s (fun _ _ _ _ _ _ _ _ _ _ _ _ hC _ k => lv_ishl hC.1 hC.2.1 hd k) kk
theorem zj_ishr {a b : Int32} (hd : decode y.2.1 pc = .ok (.ishr, 1)) (kk : zJ g y d mc ms w o k n (pc + 1) ls (.int (a >>> (b &&& 31)) :: st) μ f) : zJ g y d mc ms w o k n pc ls (.int b :: .int a :: st) μ f := zj_s (fun _ _ _ _ _ _ _ _ _ _ _ _ hC _ k => lv_ishr hC.1 hC.2.1 hd k) kk
theorem zj_iushr {a b : Int32} (hd : decode y.2.1 pc = .ok (.iushr, 1)) (kk : zJ g y d mc ms w o k n (pc + 1) ls (.int (a.toUInt32 >>> (b.toUInt32 &&& Int32.toUInt32 31)).toInt32 :: st) μ f) : zJ g y d mc ms w o k n pc ls (.int b :: .int a :: st) μ f := zj_s (fun _ _ _ _ _ _ _ _ _ _ _ _ hC _ k => lv_iushr hC.1 hC.2.1 hd rfl k) kk
theorem zj_ineg {a : Int32} (hd : decode y.2.1 pc = .ok (.ineg, 1)) (kk : zJ g y d mc ms w o k n (pc + 1) ls (.int (-a) :: st) μ f) : zJ g y d mc ms w o k n pc ls (.int a :: st) μ f := zj_s (fun _ _ _ _ _ _ _ _ _ _ _ _ hC _ k => lv_ineg hC.1 hC.2.1 hd k) kk
theorem zj_idivQ {a b : Int32} (hd : decode y.2.1 pc = .ok (.idiv, 1)) (kk : zJ g y d mc ms w o k n (pc + 1) ls (.int (a / b) :: st) μ f) : zJ g y d mc ms w o k n pc ls (.int b :: .int a :: st) μ (if b = 0 then none else f) := fun hf => by
  by_cases hb : b = 0
  · rw [if_pos hb] at hf; cases hf
  · rw [if_neg hb] at hf; exact zj_s (fun _ _ _ _ _ _ _ _ _ _ _ _ hC _ k => lv_idiv hC.1 hC.2.1 hd hb k) kk hf
theorem zj_iremQ {a b : Int32} (hd : decode y.2.1 pc = .ok (.irem, 1)) (kk : zJ g y d mc ms w o k n (pc + 1) ls (.int (a - a / b * b) :: st) μ f) : zJ g y d mc ms w o k n pc ls (.int b :: .int a :: st) μ (if b = 0 then none else f) := fun hf => by
  by_cases hb : b = 0
  · rw [if_pos hb] at hf; cases hf
  · rw [if_neg hb] at hf; exact zj_s (fun _ _ _ _ _ _ _ _ _ _ _ _ hC _ k => lv_irem hC.1 hC.2.1 hd hb k) kk hf
theorem zj_ldivQ {a b : Int64} (hd : decode y.2.1 pc = .ok (.ldiv, 1)) (kk : zJ g y d mc ms w o k n (pc + 1) ls (.long (a / b) :: st) μ f) : zJ g y d mc ms w o k n pc ls (.long b :: .long a :: st) μ (if b = 0 then none else f) := fun hf => by
  by_cases hb : b = 0
  · rw [if_pos hb] at hf; cases hf
  · rw [if_neg hb] at hf; exact zj_s (fun _ _ _ _ _ _ _ _ _ _ _ _ hC _ k => lv_ldiv hC.1 hC.2.1 hd hb k) kk hf
theorem zj_lremQ {a b : Int64} (hd : decode y.2.1 pc = .ok (.lrem, 1)) (kk : zJ g y d mc ms w o k n (pc + 1) ls (.long (a - a / b * b) :: st) μ f) : zJ g y d mc ms w o k n pc ls (.long b :: .long a :: st) μ (if b = 0 then none else f) := fun hf => by
  by_cases hb : b = 0
  · rw [if_pos hb] at hf; cases hf
  · rw [if_neg hb] at hf; exact zj_s (fun _ _ _ _ _ _ _ _ _ _ _ _ hC _ k => lv_lrem hC.1 hC.2.1 hd hb k) kk hf
theorem zj_lcmp {a b : Int64} (hd : decode y.2.1 pc = .ok (.lcmp, 1)) (kk : zJ g y d mc ms w o k n (pc + 1) ls (.int (lg_cmp a b) :: st) μ f) : zJ g y d mc ms w o k n pc ls (.long b :: .long a :: st) μ f := zj_s (fun _ _ _ _ _ _ _ _ _ _ _ _ hC _ k => W.lcmp hC.1 hC.2.1 hd k) kk
theorem zj_lshl {a : Int64} {b : Int32} (hd : decode y.2.1 pc = .ok (.lshl, 1)) (kk : zJ g y d mc ms w o k n (pc + 1) ls (.long (a <<< (b.toInt64 &&& 63)) :: st) μ f) : zJ g y d mc ms w o k n pc ls (.int b :: .long a :: st) μ f := zj_s (fun _ _ _ _ _ _ _ _ _ _ _ _ hC _ k => lv_lshl hC.1 hC.2.1 hd rfl k) kk
theorem zj_lshr {a : Int64} {b : Int32} (hd : decode y.2.1 pc = .ok (.lshr, 1)) (kk : zJ g y d mc ms w o k n (pc + 1) ls (.long (a >>> (b.toInt64 &&& 63)) :: st) μ f) : zJ g y d mc ms w o k n pc ls (.int b :: .long a :: st) μ f := zj_s (fun _ _ _ _ _ _ _ _ _ _ _ _ hC _ k => lv_lshr hC.1 hC.2.1 hd rfl k) kk
theorem zj_lushr {a : Int64} {b : Int32} (hd : decode y.2.1 pc = .ok (.lushr, 1)) (kk : zJ g y d mc ms w o k n (pc + 1) ls (.long ((a.toUInt64 >>> (b.toInt64.toUInt64 &&& Int64.toUInt64 63)).toInt64) :: st) μ f) : zJ g y d mc ms w o k n pc ls (.int b :: .long a :: st) μ f := zj_s (fun _ _ _ _ _ _ _ _ _ _ _ _ hC _ k => lv_lushr hC.1 hC.2.1 hd rfl k) kk
theorem zj_i2l {a : Int32} (hd : decode y.2.1 pc = .ok (.i2l, 1)) (kk : zJ g y d mc ms w o k n (pc + 1) ls (.long (a.toInt64) :: st) μ f) : zJ g y d mc ms w o k n pc ls (.int a :: st) μ f := zj_s (fun _ _ _ _ _ _ _ _ _ _ _ _ hC _ k => lv_i2l hC.1 hC.2.1 hd rfl k) kk
theorem zj_l2i {a : Int64} (hd : decode y.2.1 pc = .ok (.l2i, 1)) (kk : zJ g y d mc ms w o k n (pc + 1) ls (.int (a.toInt32) :: st) μ f) : zJ g y d mc ms w o k n pc ls (.long a :: st) μ f := zj_s (fun _ _ _ _ _ _ _ _ _ _ _ _ hC _ k => lv_l2i hC.1 hC.2.1 hd rfl k) kk
theorem zj_i2b {a : Int32} (hd : decode y.2.1 pc = .ok (.i2b, 1)) (kk : zJ g y d mc ms w o k n (pc + 1) ls (.int (a.toInt8.toInt32) :: st) μ f) : zJ g y d mc ms w o k n pc ls (.int a :: st) μ f := zj_s (fun _ _ _ _ _ _ _ _ _ _ _ _ hC _ k => lv_i2b hC.1 hC.2.1 hd rfl k) kk
theorem zj_i2s {a : Int32} (hd : decode y.2.1 pc = .ok (.i2s, 1)) (kk : zJ g y d mc ms w o k n (pc + 1) ls (.int (a.toInt16.toInt32) :: st) μ f) : zJ g y d mc ms w o k n pc ls (.int a :: st) μ f := zj_s (fun _ _ _ _ _ _ _ _ _ _ _ _ hC _ k => lv_i2s hC.1 hC.2.1 hd rfl k) kk
theorem zj_i2c {a : Int32} (hd : decode y.2.1 pc = .ok (.i2c, 1)) (kk : zJ g y d mc ms w o k n (pc + 1) ls (.int ((a.toUInt32 % 65536).toInt32) :: st) μ f) : zJ g y d mc ms w o k n pc ls (.int a :: st) μ f := zj_s (fun _ _ _ _ _ _ _ _ _ _ _ _ hC _ k => lv_i2c hC.1 hC.2.1 hd rfl k) kk
theorem zj_dup {v : Value} (hd : decode y.2.1 pc = .ok (.dup, 1)) (hv : v.category = 1) (kk : zJ g y d mc ms w o k n (pc + 1) ls (v :: v :: st) μ f) : zJ g y d mc ms w o k n pc ls (v :: st) μ f := zj_s (fun _ _ _ _ _ _ _ _ _ _ _ _ hC _ k => lv_dup hC.1 hC.2.1 hd hv k) kk
theorem zj_pop {v : Value} (hd : decode y.2.1 pc = .ok (.pop, 1)) (hv : v.category = 1) (kk : zJ g y d mc ms w o k n (pc + 1) ls st μ f) : zJ g y d mc ms w o k n pc ls (v :: st) μ f := zj_s (fun _ _ _ _ _ _ _ _ _ _ _ _ hC _ k => lv_pop hC.1 hC.2.1 hd hv k) kk
theorem zj_dup2 {u v : Value} (hd : decode y.2.1 pc = .ok (.dup2, 1)) (hu : u.category = 1) (hv : v.category = 1) (kk : zJ g y d mc ms w o k n (pc + 1) ls (u :: v :: u :: v :: st) μ f) : zJ g y d mc ms w o k n pc ls (u :: v :: st) μ f := zj_s (fun _ _ _ _ _ _ _ _ _ _ _ _ hC _ k => lv_dup2_11 hC.1 hC.2.1 hd hu hv k) kk
theorem zr_cat (g : zG) (r : Option Nat) : (zr g r).category = 1 := by cases r <;> rfl
theorem zj_goto {off : Int} (tgt : Nat) (hd : decode y.2.1 pc = .ok (.goto off, 3)) (ht : (pc : Int) + off = (tgt : Int)) (kk : zJ g y d mc ms w o k n tgt ls st μ f) : zJ g y d mc ms w o k n pc ls st μ f := zj_s (fun _ _ _ _ _ _ _ _ _ _ _ _ hC _ k => lv_goto hC.1 hC.2.1 hd ht k) kk
theorem zj_if_eq {a : Int32} {off : Int} (tgt : Nat) (hd : decode y.2.1 pc = .ok (.ifCond .eq off, 3)) (ht : (pc : Int) + off = (tgt : Int)) (kt : a = 0 → zJ g y d mc ms w o k n tgt ls st μ f1) (kf : ¬ (a = 0) → zJ g y d mc ms w o k n (pc + 3) ls st μ f2) : zJ g y d mc ms w o k n pc ls (.int a :: st) μ (if a = 0 then f1 else f2) := by
  intro hf p e s m args below meth c H locs A hC hR hS hl hk
  refine lv_if_eq hC.1 hC.2.1 hd ht (fun h => ?_) (fun h => ?_)
  · rw [if_pos h] at hf; exact kt h hf p e s m args below meth c H locs A hC hR hS hl hk
  · rw [if_neg h] at hf; exact kf h hf p e s m args below meth c H locs A hC hR hS hl hk
theorem zj_if_eq_t {a : Int32} {off : Int} (tgt : Nat) (hd : decode y.2.1 pc = .ok (.ifCond .eq off, 3)) (ht : (pc : Int) + off = (tgt : Int)) (hc : a = 0) (kk : zJ g y d mc ms w o k n tgt ls st μ f) : zJ g y d mc ms w o k n pc ls (.int a :: st) μ f := by
  intro hf p e s m args below meth c H locs A hC hR hS hl hk
  exact lv_if_eq hC.1 hC.2.1 hd ht (fun h => kk hf p e s m args below meth c H locs A hC hR hS hl hk) (fun h => absurd hc h)
theorem zj_if_eq_f {a : Int32} {off : Int} (tgt : Nat) (hd : decode y.2.1 pc = .ok (.ifCond .eq off, 3)) (ht : (pc : Int) + off = (tgt : Int)) (hc : ¬ (a = 0)) (kk : zJ g y d mc ms w o k n (pc + 3) ls st μ f) : zJ g y d mc ms w o k n pc ls (.int a :: st) μ f := by
  intro hf p e s m args below meth c H locs A hC hR hS hl hk
  exact lv_if_eq hC.1 hC.2.1 hd ht (fun h => absurd h hc) (fun h => kk hf p e s m args below meth c H locs A hC hR hS hl hk)
theorem zj_if_ne {a : Int32} {off : Int} (tgt : Nat) (hd : decode y.2.1 pc = .ok (.ifCond .ne off, 3)) (ht : (pc : Int) + off = (tgt : Int)) (kt : ¬ (a = 0) → zJ g y d mc ms w o k n tgt ls st μ f1) (kf : a = 0 → zJ g y d mc ms w o k n (pc + 3) ls st μ f2) : zJ g y d mc ms w o k n pc ls (.int a :: st) μ (if a = 0 then f2 else f1) := by
  intro hf p e s m args below meth c H locs A hC hR hS hl hk
  refine lv_if_ne hC.1 hC.2.1 hd ht (fun h => ?_) (fun h => ?_)
  · rw [if_neg h] at hf; exact kt h hf p e s m args below meth c H locs A hC hR hS hl hk
  · rw [if_pos h] at hf; exact kf h hf p e s m args below meth c H locs A hC hR hS hl hk
theorem zj_if_ne_t {a : Int32} {off : Int} (tgt : Nat) (hd : decode y.2.1 pc = .ok (.ifCond .ne off, 3)) (ht : (pc : Int) + off = (tgt : Int)) (hc : ¬ (a = 0)) (kk : zJ g y d mc ms w o k n tgt ls st μ f) : zJ g y d mc ms w o k n pc ls (.int a :: st) μ f := by
  intro hf p e s m args below meth c H locs A hC hR hS hl hk
  exact lv_if_ne hC.1 hC.2.1 hd ht (fun h => kk hf p e s m args below meth c H locs A hC hR hS hl hk) (fun h => absurd h hc)
theorem zj_if_ne_f {a : Int32} {off : Int} (tgt : Nat) (hd : decode y.2.1 pc = .ok (.ifCond .ne off, 3)) (ht : (pc : Int) + off = (tgt : Int)) (hc : a = 0) (kk : zJ g y d mc ms w o k n (pc + 3) ls st μ f) : zJ g y d mc ms w o k n pc ls (.int a :: st) μ f := by
  intro hf p e s m args below meth c H locs A hC hR hS hl hk
  exact lv_if_ne hC.1 hC.2.1 hd ht (fun h => absurd hc h) (fun h => kk hf p e s m args below meth c H locs A hC hR hS hl hk)
theorem zj_if_lt {a : Int32} {off : Int} (tgt : Nat) (hd : decode y.2.1 pc = .ok (.ifCond .lt off, 3)) (ht : (pc : Int) + off = (tgt : Int)) (kt : a < 0 → zJ g y d mc ms w o k n tgt ls st μ f1) (kf : ¬ (a < 0) → zJ g y d mc ms w o k n (pc + 3) ls st μ f2) : zJ g y d mc ms w o k n pc ls (.int a :: st) μ (if a < 0 then f1 else f2) := by
  intro hf p e s m args below meth c H locs A hC hR hS hl hk
  refine lv_if_lt hC.1 hC.2.1 hd ht (fun h => ?_) (fun h => ?_)
  · rw [if_pos h] at hf; exact kt h hf p e s m args below meth c H locs A hC hR hS hl hk
  · rw [if_neg h] at hf; exact kf h hf p e s m args below meth c H locs A hC hR hS hl hk
theorem zj_if_lt_t {a : Int32} {off : Int} (tgt : Nat) (hd : decode y.2.1 pc = .ok (.ifCond .lt off, 3)) (ht : (pc : Int) + off = (tgt : Int)) (hc : a < 0) (kk : zJ g y d mc ms w o k n tgt ls st μ f) : zJ g y d mc ms w o k n pc ls (.int a :: st) μ f := by
  intro hf p e s m args below meth c H locs A hC hR hS hl hk
  exact lv_if_lt hC.1 hC.2.1 hd ht (fun h => kk hf p e s m args below meth c H locs A hC hR hS hl hk) (fun h => absurd hc h)
theorem zj_if_lt_f {a : Int32} {off : Int} (tgt : Nat) (hd : decode y.2.1 pc = .ok (.ifCond .lt off, 3)) (ht : (pc : Int) + off = (tgt : Int)) (hc : ¬ (a < 0)) (kk : zJ g y d mc ms w o k n (pc + 3) ls st μ f) : zJ g y d mc ms w o k n pc ls (.int a :: st) μ f := by
  intro hf p e s m args below meth c H locs A hC hR hS hl hk
  exact lv_if_lt hC.1 hC.2.1 hd ht (fun h => absurd h hc) (fun h => kk hf p e s m args below meth c H locs A hC hR hS hl hk)
theorem zj_if_ge {a : Int32} {off : Int} (tgt : Nat) (hd : decode y.2.1 pc = .ok (.ifCond .ge off, 3)) (ht : (pc : Int) + off = (tgt : Int)) (kt : 0 ≤ a → zJ g y d mc ms w o k n tgt ls st μ f1) (kf : ¬ (0 ≤ a) → zJ g y d mc ms w o k n (pc + 3) ls st μ f2) : zJ g y d mc ms w o k n pc ls (.int a :: st) μ (if 0 ≤ a then f1 else f2) := by
  intro hf p e s m args below meth c H locs A hC hR hS hl hk
  refine lv_if_ge hC.1 hC.2.1 hd ht (fun h => ?_) (fun h => ?_)
  · rw [if_pos h] at hf; exact kt h hf p e s m args below meth c H locs A hC hR hS hl hk
  · rw [if_neg h] at hf; exact kf h hf p e s m args below meth c H locs A hC hR hS hl hk
theorem zj_if_ge_t {a : Int32} {off : Int} (tgt : Nat) (hd : decode y.2.1 pc = .ok (.ifCond .ge off, 3)) (ht : (pc : Int) + off = (tgt : Int)) (hc : 0 ≤ a) (kk : zJ g y d mc ms w o k n tgt ls st μ f) : zJ g y d mc ms w o k n pc ls (.int a :: st) μ f := by
  intro hf p e s m args below meth c H locs A hC hR hS hl hk
  exact lv_if_ge hC.1 hC.2.1 hd ht (fun h => kk hf p e s m args below meth c H locs A hC hR hS hl hk) (fun h => absurd hc h)
theorem zj_if_ge_f {a : Int32} {off : Int} (tgt : Nat) (hd : decode y.2.1 pc = .ok (.ifCond .ge off, 3)) (ht : (pc : Int) + off = (tgt : Int)) (hc : ¬ (0 ≤ a)) (kk : zJ g y d mc ms w o k n (pc + 3) ls st μ f) : zJ g y d mc ms w o k n pc ls (.int a :: st) μ f := by
  intro hf p e s m args below meth c H locs A hC hR hS hl hk
  exact lv_if_ge hC.1 hC.2.1 hd ht (fun h => absurd h hc) (fun h => kk hf p e s m args below meth c H locs A hC hR hS hl hk)
theorem zj_if_gt {a : Int32} {off : Int} (tgt : Nat) (hd : decode y.2.1 pc = .ok (.ifCond .gt off, 3)) (ht : (pc : Int) + off = (tgt : Int)) (kt : 0 < a → zJ g y d mc ms w o k n tgt ls st μ f1) (kf : ¬ (0 < a) → zJ g y d mc ms w o k n (pc + 3) ls st μ f2) : zJ g y d mc ms w o k n pc ls (.int a :: st) μ (if 0 < a then f1 else f2) := by
  intro hf p e s m args below meth c H locs A hC hR hS hl hk
  refine lv_if_gt hC.1 hC.2.1 hd ht (fun h => ?_) (fun h => ?_)
  · rw [if_pos h] at hf; exact kt h hf p e s m args below meth c H locs A hC hR hS hl hk
  · rw [if_neg h] at hf; exact kf h hf p e s m args below meth c H locs A hC hR hS hl hk
theorem zj_if_gt_t {a : Int32} {off : Int} (tgt : Nat) (hd : decode y.2.1 pc = .ok (.ifCond .gt off, 3)) (ht : (pc : Int) + off = (tgt : Int)) (hc : 0 < a) (kk : zJ g y d mc ms w o k n tgt ls st μ f) : zJ g y d mc ms w o k n pc ls (.int a :: st) μ f := by
  intro hf p e s m args below meth c H locs A hC hR hS hl hk
  exact lv_if_gt hC.1 hC.2.1 hd ht (fun h => kk hf p e s m args below meth c H locs A hC hR hS hl hk) (fun h => absurd hc h)
theorem zj_if_gt_f {a : Int32} {off : Int} (tgt : Nat) (hd : decode y.2.1 pc = .ok (.ifCond .gt off, 3)) (ht : (pc : Int) + off = (tgt : Int)) (hc : ¬ (0 < a)) (kk : zJ g y d mc ms w o k n (pc + 3) ls st μ f) : zJ g y d mc ms w o k n pc ls (.int a :: st) μ f := by
  intro hf p e s m args below meth c H locs A hC hR hS hl hk
  exact lv_if_gt hC.1 hC.2.1 hd ht (fun h => absurd h hc) (fun h => kk hf p e s m args below meth c H locs A hC hR hS hl hk)
theorem zj_if_le {a : Int32} {off : Int} (tgt : Nat) (hd : decode y.2.1 pc = .ok (.ifCond .le off, 3)) (ht : (pc : Int) + off = (tgt : Int)) (kt : a ≤ 0 → zJ g y d mc ms w o k n tgt ls st μ f1) (kf : ¬ (a ≤ 0) → zJ g y d mc ms w o k n (pc + 3) ls st μ f2) : zJ g y d mc ms w o k n pc ls (.int a :: st) μ (if a ≤ 0 then f1 else f2) := by
  intro hf p e s m args below meth c H locs A hC hR hS hl hk
  refine lv_if_le hC.1 hC.2.1 hd ht (fun h => ?_) (fun h => ?_)
  · rw [if_pos h] at hf; exact kt h hf p e s m args below meth c H locs A hC hR hS hl hk
  · rw [if_neg h] at hf; exact kf h hf p e s m args below meth c H locs A hC hR hS hl hk
theorem zj_if_le_t {a : Int32} {off : Int} (tgt : Nat) (hd : decode y.2.1 pc = .ok (.ifCond .le off, 3)) (ht : (pc : Int) + off = (tgt : Int)) (hc : a ≤ 0) (kk : zJ g y d mc ms w o k n tgt ls st μ f) : zJ g y d mc ms w o k n pc ls (.int a :: st) μ f := by
  intro hf p e s m args below meth c H locs A hC hR hS hl hk
  exact lv_if_le hC.1 hC.2.1 hd ht (fun h => kk hf p e s m args below meth c H locs A hC hR hS hl hk) (fun h => absurd hc h)
theorem zj_if_le_f {a : Int32} {off : Int} (tgt : Nat) (hd : decode y.2.1 pc = .ok (.ifCond .le off, 3)) (ht : (pc : Int) + off = (tgt : Int)) (hc : ¬ (a ≤ 0)) (kk : zJ g y d mc ms w o k n (pc + 3) ls st μ f) : zJ g y d mc ms w o k n pc ls (.int a :: st) μ f := by
  intro hf p e s m args below meth c H locs A hC hR hS hl hk
  exact lv_if_le hC.1 hC.2.1 hd ht (fun h => absurd h hc) (fun h => kk hf p e s m args below meth c H locs A hC hR hS hl hk)
theorem zj_icmp_eq {a b : Int32} {off : Int} (tgt : Nat) (hd : decode y.2.1 pc = .ok (.if_icmp .eq off, 3)) (ht : (pc : Int) + off = (tgt : Int)) (kt : a = b → zJ g y d mc ms w o k n tgt ls st μ f1) (kf : ¬ (a = b) → zJ g y d mc ms w o k n (pc + 3) ls st μ f2) : zJ g y d mc ms w o k n pc ls (.int b :: .int a :: st) μ (if a = b then f1 else f2) := by
  intro hf p e s m args below meth c H locs A hC hR hS hl hk
  refine lv_icmp_eq hC.1 hC.2.1 hd ht (fun h => ?_) (fun h => ?_)
  · rw [if_pos h] at hf; exact kt h hf p e s m args below meth c H locs A hC hR hS hl hk
  · rw [if_neg h] at hf; exact kf h hf p e s m args below meth c H locs A hC hR hS hl hk
theorem zj_icmp_eq_t {a b : Int32} {off : Int} (tgt : Nat) (hd : decode y.2.1 pc = .ok (.if_icmp .eq off, 3)) (ht : (pc : Int) + off = (tgt : Int)) (hc : a = b) (kk : zJ g y d mc ms w o k n tgt ls st μ f) : zJ g y d mc ms w o k n pc ls (.int b :: .int a :: st) μ f := by
  intro hf p e s m args below meth c H locs A hC hR hS hl hk
  exact lv_icmp_eq hC.1 hC.2.1 hd ht (fun h => kk hf p e s m args below meth c H locs A hC hR hS hl hk) (fun h => absurd hc h)
theorem zj_icmp_eq_f {a b : Int32} {off : Int} (tgt : Nat) (hd : decode y.2.1 pc = .ok (.if_icmp .eq off, 3)) (ht : (pc : Int) + off = (tgt : Int)) (hc : ¬ (a = b)) (kk : zJ g y d mc ms w o k n (pc + 3) ls st μ f) : zJ g y d mc ms w o k n pc ls (.int b :: .int a :: st) μ f := by
  intro hf p e s m args below meth c H locs A hC hR hS hl hk
  exact lv_icmp_eq hC.1 hC.2.1 hd ht (fun h => absurd h hc) (fun h => kk hf p e s m args below meth c H locs A hC hR hS hl hk)
theorem zj_icmp_ne {a b : Int32} {off : Int} (tgt : Nat) (hd : decode y.2.1 pc = .ok (.if_icmp .ne off, 3)) (ht : (pc : Int) + off = (tgt : Int)) (kt : ¬ (a = b) → zJ g y d mc ms w o k n tgt ls st μ f1) (kf : a = b → zJ g y d mc ms w o k n (pc + 3) ls st μ f2) : zJ g y d mc ms w o k n pc ls (.int b :: .int a :: st) μ (if a = b then f2 else f1) := by
  intro hf p e s m args below meth c H locs A hC hR hS hl hk
  refine lv_icmp_ne hC.1 hC.2.1 hd ht (fun h => ?_) (fun h => ?_)
  · rw [if_neg h] at hf; exact kt h hf p e s m args below meth c H locs A hC hR hS hl hk
  · rw [if_pos h] at hf; exact kf h hf p e s m args below meth c H locs A hC hR hS hl hk
theorem zj_icmp_ne_t {a b : Int32} {off : Int} (tgt : Nat) (hd : decode y.2.1 pc = .ok (.if_icmp .ne off, 3)) (ht : (pc : Int) + off = (tgt : Int)) (hc : ¬ (a = b)) (kk : zJ g y d mc ms w o k n tgt ls st μ f) : zJ g y d mc ms w o k n pc ls (.int b :: .int a :: st) μ f := by
  intro hf p e s m args below meth c H locs A hC hR hS hl hk
  exact lv_icmp_ne hC.1 hC.2.1 hd ht (fun h => kk hf p e s m args below meth c H locs A hC hR hS hl hk) (fun h => absurd h hc)
theorem zj_icmp_ne_f {a b : Int32} {off : Int} (tgt : Nat) (hd : decode y.2.1 pc = .ok (.if_icmp .ne off, 3)) (ht : (pc : Int) + off = (tgt : Int)) (hc : a = b) (kk : zJ g y d mc ms w o k n (pc + 3) ls st μ f) : zJ g y d mc ms w o k n pc ls (.int b :: .int a :: st) μ f := by
  intro hf p e s m args below meth c H locs A hC hR hS hl hk
  exact lv_icmp_ne hC.1 hC.2.1 hd ht (fun h => absurd hc h) (fun h => kk hf p e s m args below meth c H locs A hC hR hS hl hk)
theorem zj_icmp_lt {a b : Int32} {off : Int} (tgt : Nat) (hd : decode y.2.1 pc = .ok (.if_icmp .lt off, 3)) (ht : (pc : Int) + off = (tgt : Int)) (kt : a < b → zJ g y d mc ms w o k n tgt ls st μ f1) (kf : ¬ (a < b) → zJ g y d mc ms w o k n (pc + 3) ls st μ f2) : zJ g y d mc ms w o k n pc ls (.int b :: .int a :: st) μ (if a < b then f1 else f2) := by
  intro hf p e s m args below meth c H locs A hC hR hS hl hk
  refine lv_icmp_lt hC.1 hC.2.1 hd ht (fun h => ?_) (fun h => ?_)
  · rw [if_pos h] at hf; exact kt h hf p e s m args below meth c H locs A hC hR hS hl hk
  · rw [if_neg h] at hf; exact kf h hf p e s m args below meth c H locs A hC hR hS hl hk
theorem zj_icmp_lt_t {a b : Int32} {off : Int} (tgt : Nat) (hd : decode y.2.1 pc = .ok (.if_icmp .lt off, 3)) (ht : (pc : Int) + off = (tgt : Int)) (hc : a < b) (kk : zJ g y d mc ms w o k n tgt ls st μ f) : zJ g y d mc ms w o k n pc ls (.int b :: .int a :: st) μ f := by
  intro hf p e s m args below meth c H locs A hC hR hS hl hk
  exact lv_icmp_lt hC.1 hC.2.1 hd ht (fun h => kk hf p e s m args below meth c H locs A hC hR hS hl hk) (fun h => absurd hc h)
theorem zj_icmp_lt_f {a b : Int32} {off : Int} (tgt : Nat) (hd : decode y.2.1 pc = .ok (.if_icmp .lt off, 3)) (ht : (pc : Int) + off = (tgt : Int)) (hc : ¬ (a < b)) (kk : zJ g y d mc ms w o k n (pc + 3) ls st μ f) : zJ g y d mc ms w o k n pc ls (.int b :: .int a :: st) μ f := by
  intro hf p e s m args below meth c H locs A hC hR hS hl hk
  exact lv_icmp_lt hC.1 hC.2.1 hd ht (fun h => absurd h hc) (fun h => kk hf p e s m args below meth c H locs A hC hR hS hl hk)
theorem zj_icmp_ge {a b : Int32} {off : Int} (tgt : Nat) (hd : decode y.2.1 pc = .ok (.if_icmp .ge off, 3)) (ht : (pc : Int) + off = (tgt : Int)) (kt : b ≤ a → zJ g y d mc ms w o k n tgt ls st μ f1) (kf : ¬ (b ≤ a) → zJ g y d mc ms w o k n (pc + 3) ls st μ f2) : zJ g y d mc ms w o k n pc ls (.int b :: .int a :: st) μ (if b ≤ a then f1 else f2) := by
  intro hf p e s m args below meth c H locs A hC hR hS hl hk
  refine lv_icmp_ge hC.1 hC.2.1 hd ht (fun h => ?_) (fun h => ?_)
  · rw [if_pos h] at hf; exact kt h hf p e s m args below meth c H locs A hC hR hS hl hk
  · rw [if_neg h] at hf; exact kf h hf p e s m args below meth c H locs A hC hR hS hl hk
theorem zj_icmp_ge_t {a b : Int32} {off : Int} (tgt : Nat) (hd : decode y.2.1 pc = .ok (.if_icmp .ge off, 3)) (ht : (pc : Int) + off = (tgt : Int)) (hc : b ≤ a) (kk : zJ g y d mc ms w o k n tgt ls st μ f) : zJ g y d mc ms w o k n pc ls (.int b :: .int a :: st) μ f := by
  intro hf p e s m args below meth c H locs A hC hR hS hl hk
  exact lv_icmp_ge hC.1 hC.2.1 hd ht (fun h => kk hf p e s m args below meth c H locs A hC hR hS hl hk) (fun h => absurd hc h)
theorem zj_icmp_ge_f {a b : Int32} {off : Int} (tgt : Nat) (hd : decode y.2.1 pc = .ok (.if_icmp .ge off, 3)) (ht : (pc : Int) + off = (tgt : Int)) (hc : ¬ (b ≤ a)) (kk : zJ g y d mc ms w o k n (pc + 3) ls st μ f) : zJ g y d mc ms w o k n pc ls (.int b :: .int a :: st) μ f := by
  intro hf p e s m args below meth c H locs A hC hR hS hl hk
  exact lv_icmp_ge hC.1 hC.2.1 hd ht (fun h => absurd h hc) (fun h => kk hf p e s m args below meth c H locs A hC hR hS hl hk)
theorem zj_icmp_gt {a b : Int32} {off : Int} (tgt : Nat) (hd : decode y.2.1 pc = .ok (.if_icmp .gt off, 3)) (ht : (pc : Int) + off = (tgt : Int)) (kt : b < a → zJ g y d mc ms w o k n tgt ls st μ f1) (kf : ¬ (b < a) → zJ g y d mc ms w o k n (pc + 3) ls st μ f2) : zJ g y d mc ms w o k n pc ls (.int b :: .int a :: st) μ (if b < a then f1 else f2) := by
  intro hf p e s m args below meth c H locs A hC hR hS hl hk
  refine lv_icmp_gt hC.1 hC.2.1 hd ht (fun h => ?_) (fun h => ?_)
  · rw [if_pos h] at hf; exact kt h hf p e s m args below meth c H locs A hC hR hS hl hk
  · rw [if_neg h] at hf; exact kf h hf p e s m args below meth c H locs A hC hR hS hl hk
theorem zj_icmp_gt_t {a b : Int32} {off : Int} (tgt : Nat) (hd : decode y.2.1 pc = .ok (.if_icmp .gt off, 3)) (ht : (pc : Int) + off = (tgt : Int)) (hc : b < a) (kk : zJ g y d mc ms w o k n tgt ls st μ f) : zJ g y d mc ms w o k n pc ls (.int b :: .int a :: st) μ f := by
  intro hf p e s m args below meth c H locs A hC hR hS hl hk
  exact lv_icmp_gt hC.1 hC.2.1 hd ht (fun h => kk hf p e s m args below meth c H locs A hC hR hS hl hk) (fun h => absurd hc h)
theorem zj_icmp_gt_f {a b : Int32} {off : Int} (tgt : Nat) (hd : decode y.2.1 pc = .ok (.if_icmp .gt off, 3)) (ht : (pc : Int) + off = (tgt : Int)) (hc : ¬ (b < a)) (kk : zJ g y d mc ms w o k n (pc + 3) ls st μ f) : zJ g y d mc ms w o k n pc ls (.int b :: .int a :: st) μ f := by
  intro hf p e s m args below meth c H locs A hC hR hS hl hk
  exact lv_icmp_gt hC.1 hC.2.1 hd ht (fun h => absurd h hc) (fun h => kk hf p e s m args below meth c H locs A hC hR hS hl hk)
theorem zj_icmp_le {a b : Int32} {off : Int} (tgt : Nat) (hd : decode y.2.1 pc = .ok (.if_icmp .le off, 3)) (ht : (pc : Int) + off = (tgt : Int)) (kt : a ≤ b → zJ g y d mc ms w o k n tgt ls st μ f1) (kf : ¬ (a ≤ b) → zJ g y d mc ms w o k n (pc + 3) ls st μ f2) : zJ g y d mc ms w o k n pc ls (.int b :: .int a :: st) μ (if a ≤ b then f1 else f2) := by
  intro hf p e s m args below meth c H locs A hC hR hS hl hk
  refine lv_icmp_le hC.1 hC.2.1 hd ht (fun h => ?_) (fun h => ?_)
  · rw [if_pos h] at hf; exact kt h hf p e s m args below meth c H locs A hC hR hS hl hk
  · rw [if_neg h] at hf; exact kf h hf p e s m args below meth c H locs A hC hR hS hl hk
theorem zj_icmp_le_t {a b : Int32} {off : Int} (tgt : Nat) (hd : decode y.2.1 pc = .ok (.if_icmp .le off, 3)) (ht : (pc : Int) + off = (tgt : Int)) (hc : a ≤ b) (kk : zJ g y d mc ms w o k n tgt ls st μ f) : zJ g y d mc ms w o k n pc ls (.int b :: .int a :: st) μ f := by
  intro hf p e s m args below meth c H locs A hC hR hS hl hk
  exact lv_icmp_le hC.1 hC.2.1 hd ht (fun h => kk hf p e s m args below meth c H locs A hC hR hS hl hk) (fun h => absurd hc h)
theorem zj_icmp_le_f {a b : Int32} {off : Int} (tgt : Nat) (hd : decode y.2.1 pc = .ok (.if_icmp .le off, 3)) (ht : (pc : Int) + off = (tgt : Int)) (hc : ¬ (a ≤ b)) (kk : zJ g y d mc ms w o k n (pc + 3) ls st μ f) : zJ g y d mc ms w o k n pc ls (.int b :: .int a :: st) μ f := by
  intro hf p e s m args below meth c H locs A hC hR hS hl hk
  exact lv_icmp_le hC.1 hC.2.1 hd ht (fun h => absurd h hc) (fun h => kk hf p e s m args below meth c H locs A hC hR hS hl hk)
theorem zj_tsw {a : Int32} {dflt lo hi : Int} {offs : Array Int} {len : Nat} {off : Int} (c : Int32) (z : Int) (tgt : Nat) (hd : decode y.2.1 pc = .ok (.tableswitch dflt lo hi offs, len)) (hz : c.toInt = z) (h1 : ¬ z < lo) (h2 : ¬ hi < z) (ho : offs[(z - lo).toNat]? = some off) (ht : (pc : Int) + off = (tgt : Int)) (kt : a = c → zJ g y d mc ms w o k n tgt ls st μ f1) (kf : ¬ a = c → zJ g y d mc ms w o k n pc ls (.int a :: st) μ f2) : zJ g y d mc ms w o k n pc ls (.int a :: st) μ (if a = c then f1 else f2) := by
  intro hf p e s m args below meth c' H locs A hC hR hS hl hk
  by_cases h : a = c
  · rw [if_pos h] at hf
    subst h
    exact lv_tableIn hC.1 hC.2.1 hd (by rw [hz]; exact h1) (by rw [hz]; exact h2) (by rw [hz]; exact ho) ht (kt rfl hf p e s m args below meth c' H locs A hC hR hS hl hk)
  · rw [if_neg h] at hf
    exact kf h hf p e s m args below meth c' H locs A hC hR hS hl hk
theorem zj_tswD {a : Int32} {dflt lo hi : Int} {offs : Array Int} {len : Nat} (tgt : Nat) (hd : decode y.2.1 pc = .ok (.tableswitch dflt lo hi offs, len)) (h : a.toInt < lo ∨ hi < a.toInt) (ht : (pc : Int) + dflt = (tgt : Int)) (kk : zJ g y d mc ms w o k n tgt ls st μ f) : zJ g y d mc ms w o k n pc ls (.int a :: st) μ f := zj_s (fun _ _ _ _ _ _ _ _ _ _ _ _ hC _ k => lv_tableOut hC.1 hC.2.1 hd h ht k) kk
theorem zj_lsw {a : Int32} {dflt : Int} {ps : Array (Int × Int)} {len : Nat} {off : Int} (tgt : Nat) (hd : decode y.2.1 pc = .ok (.lookupswitch dflt ps, len)) (hp : (ps.toList.zip (ps.toList.drop 1)).all (fun (a, next) => a.1 < next.1) = true) (ho : Op.lookupswitch.offset ps.toList dflt a.toInt = off) (ht : (pc : Int) + off = (tgt : Int)) (kk : zJ g y d mc ms w o k n tgt ls st μ f) : zJ g y d mc ms w o k n pc ls (.int a :: st) μ f := zj_s (fun _ _ _ _ _ _ _ _ _ _ _ _ hC _ k => lv_lookup hC.1 hC.2.1 hd hp ho ht k) kk
theorem zj_ite {c : Prop} {_ : Decidable c} (kt : c → zJ g y d mc ms w o k n pc ls st μ f1) (kf : ¬ c → zJ g y d mc ms w o k n pc ls st μ f2) : zJ g y d mc ms w o k n pc ls st μ (if c then f1 else f2) := by
  intro hf
  by_cases h : c
  · rw [if_pos h] at hf; exact kt h hf
  · rw [if_neg h] at hf; exact kf h hf
theorem zj_iret {v : Int32} {t : τ} (hw : w t = (some (.int v), μ)) (hr : y.2.2.2 = some .int) (hkm : k = mc) (hn : n = ms) (hd : decode y.2.1 pc = .ok (.ireturn, 1)) : zJ g y d mc ms w o k n pc ls [.int v] μ (some t) := by
  intro hf p e s m args below meth c H locs A hC hR hS hl hk
  cases hf; subst hkm; subst hn
  have hlocks : meth.locks = false := hC.2.2.2.2.2.2.2.1
  rw [hw]
  exact W.iret hC.1 hC.2.1 (hC.2.2.1.trans hr) (fun t ht _ => ⟨rfl, by rw [ht]; exact hR, hS.F ht, by rw [ht, hR.1]; exact hk⟩) hS.2.2 hd hlocks
theorem zj_lret {v : Int64} {t : τ} (hw : w t = (some (.long v), μ)) (hr : y.2.2.2 = some .long) (hkm : k = mc) (hn : n = ms) (hd : decode y.2.1 pc = .ok (.lreturn, 1)) : zJ g y d mc ms w o k n pc ls [.long v] μ (some t) := by
  intro hf p e s m args below meth c H locs A hC hR hS hl hk
  cases hf; subst hkm; subst hn
  have hlocks : meth.locks = false := hC.2.2.2.2.2.2.2.1
  rw [hw]
  exact W.lret hC.1 hC.2.1 (hC.2.2.1.trans hr) (fun t ht _ => ⟨rfl, by rw [ht]; exact hR, hS.F ht, by rw [ht, hR.1]; exact hk⟩) hS.2.2 hd hlocks
theorem zj_vret {t : τ} (hw : w t = (none, μ)) (hr : y.2.2.2 = none) (hkm : k = mc) (hn : n = ms) (hd : decode y.2.1 pc = .ok (.return_, 1)) : zJ g y d mc ms w o k n pc ls [] μ (some t) := by
  intro hf p e s m args below meth c H locs A hC hR hS hl hk
  cases hf; subst hkm; subst hn
  have hlocks : meth.locks = false := hC.2.2.2.2.2.2.2.1
  rw [hw]
  exact W.vret hC.1 hC.2.1 (hC.2.2.1.trans hr) (fun t ht _ => ⟨rfl, by rw [ht]; exact hR, hS.F ht, by rw [ht, hR.1]; exact hk⟩) hS.2.2 hd hlocks
theorem zj_zretL {v : Int32} {t : τ} (hv : v = 0 ∨ v = 1) (hw : w t = (some (.int v), μ)) (hr : y.2.2.2 = some .boolean) (hkm : k = mc) (hn : n = ms) (hd : decode y.2.1 pc = .ok (.ireturn, 1)) : zJ g y d mc ms w o k n pc ls [.int v] μ (some t) := by
  intro hf p e s m args below meth c H locs A hC hR hS hl hk
  cases hf; subst hkm; subst hn
  have hlocks : meth.locks = false := hC.2.2.2.2.2.2.2.1
  rw [hw]
  exact W.zret hC.1 hC.2.1 (hC.2.2.1.trans hr) (by rcases hv with h | h <;> (have h : v = _ := h) <;> rw [h] <;> decide) (fun t ht _ => ⟨rfl, by rw [ht]; exact hR, hS.F ht, by rw [ht, hR.1]; exact hk⟩) hS.2.2 hd hlocks
/-- a boolean answer -/
def zrz {τ : Type} (v : Int32) (t : τ) : Option τ := if v = 0 ∨ v = 1 then some t else none
theorem zj_zret {v : Int32} {t : τ} (hw : w t = (some (.int v), μ)) (hr : y.2.2.2 = some .boolean) (hkm : k = mc) (hn : n = ms) (hd : decode y.2.1 pc = .ok (.ireturn, 1)) : zJ g y d mc ms w o k n pc ls [.int v] μ (zrz v t) := by
  intro hf
  unfold zrz at hf
  by_cases hv : v = 0 ∨ v = 1
  · rw [if_pos hv] at hf
    exact zj_zretL hv hw hr hkm hn hd hf
  · rw [if_neg hv] at hf; cases hf
/-- a name for a value -/
def zlet {α β : Type} (e : α) (f : α → β) : β := f e
theorem zj_letI {e : Int32} {f : Int32 → Option τ} (kk : ∀ v : Int32, zJ g y d mc ms w o k n pc ls (.int v :: st) μ (f v)) : zJ g y d mc ms w o k n pc ls (.int e :: st) μ (zlet e f) := kk e
theorem zj_letJ {e : Int64} {f : Int64 → Option τ} (kk : ∀ v : Int64, zJ g y d mc ms w o k n pc ls (.long v :: st) μ (f v)) : zJ g y d mc ms w o k n pc ls (.long e :: st) μ (zlet e f) := kk e
end ZA
-- ===== loops and joins =====

def zfix1 {α : Type} {T0 : Type} (b : (T0 → Option α) → T0 → Option α) : Nat → T0 → Option α
  | 0 => fun _ => none
  | m + 1 => b (zfix1 b m)
def zjn1 {α : Type} {T0 : Type} (b : (T0 → α) → α) (k : T0 → α) : α := b k
theorem zj_fix1 {τ : Type} {g : zG} {y : zY} {d mc ms : Nat} {w : τ → Option Value × zS} {o : τ} {k n pc : Nat} {T0 : Type} {b : (T0 → Option τ) → T0 → Option τ} {N : Nat} (LS : T0 → List (Option Value)) (MU : T0 → zS) (h : ∀ rec : T0 → Option τ, (∀ x0, zJ g y d mc ms w o k n pc (LS x0) [] (MU x0) (rec x0)) → ∀ x0, zJ g y d mc ms w o k n pc (LS x0) [] (MU x0) (b rec x0)) (x0 : _) : zJ g y d mc ms w o k n pc (LS x0) [] (MU x0) (zfix1 b N x0) := by
  induction N generalizing x0 with
  | zero => intro hf; cases hf
  | succ N ih => exact h (zfix1 b N) (fun x0 => ih x0) x0
theorem zj_jn1 {τ : Type} {g : zG} {y : zY} {d mc ms : Nat} {w : τ → Option Value × zS} {o : τ} {k n pc : Nat} {T0 : Type} {pcj : Nat} {ls : List (Option Value)} {st : List Value} {μ : zS} {b : (T0 → Option τ) → Option τ} {kk : T0 → Option τ} (LS : T0 → List (Option Value)) (ST : T0 → List Value) (MU : T0 → zS) (hk : ∀ x0, zJ g y d mc ms w o k n pcj (LS x0) (ST x0) (MU x0) (kk x0)) (hb : ∀ j : T0 → Option τ, (∀ x0, zJ g y d mc ms w o k n pcj (LS x0) (ST x0) (MU x0) (j x0)) → zJ g y d mc ms w o k n pc ls st μ (b j)) : zJ g y d mc ms w o k n pc ls st μ (zjn1 b kk) := hb kk hk
def zfix2 {α : Type} {T0 : Type} {T1 : Type} (b : (T0 → T1 → Option α) → T0 → T1 → Option α) : Nat → T0 → T1 → Option α
  | 0 => fun _ _ => none
  | m + 1 => b (zfix2 b m)
def zjn2 {α : Type} {T0 : Type} {T1 : Type} (b : (T0 → T1 → α) → α) (k : T0 → T1 → α) : α := b k
theorem zj_fix2 {τ : Type} {g : zG} {y : zY} {d mc ms : Nat} {w : τ → Option Value × zS} {o : τ} {k n pc : Nat} {T0 : Type} {T1 : Type} {b : (T0 → T1 → Option τ) → T0 → T1 → Option τ} {N : Nat} (LS : T0 → T1 → List (Option Value)) (MU : T0 → T1 → zS) (h : ∀ rec : T0 → T1 → Option τ, (∀ x0 x1, zJ g y d mc ms w o k n pc (LS x0 x1) [] (MU x0 x1) (rec x0 x1)) → ∀ x0 x1, zJ g y d mc ms w o k n pc (LS x0 x1) [] (MU x0 x1) (b rec x0 x1)) (x0 : _) (x1 : _) : zJ g y d mc ms w o k n pc (LS x0 x1) [] (MU x0 x1) (zfix2 b N x0 x1) := by
  induction N generalizing x0 x1 with
  | zero => intro hf; cases hf
  | succ N ih => exact h (zfix2 b N) (fun x0 x1 => ih x0 x1) x0 x1
theorem zj_jn2 {τ : Type} {g : zG} {y : zY} {d mc ms : Nat} {w : τ → Option Value × zS} {o : τ} {k n pc : Nat} {T0 : Type} {T1 : Type} {pcj : Nat} {ls : List (Option Value)} {st : List Value} {μ : zS} {b : (T0 → T1 → Option τ) → Option τ} {kk : T0 → T1 → Option τ} (LS : T0 → T1 → List (Option Value)) (ST : T0 → T1 → List Value) (MU : T0 → T1 → zS) (hk : ∀ x0 x1, zJ g y d mc ms w o k n pcj (LS x0 x1) (ST x0 x1) (MU x0 x1) (kk x0 x1)) (hb : ∀ j : T0 → T1 → Option τ, (∀ x0 x1, zJ g y d mc ms w o k n pcj (LS x0 x1) (ST x0 x1) (MU x0 x1) (j x0 x1)) → zJ g y d mc ms w o k n pc ls st μ (b j)) : zJ g y d mc ms w o k n pc ls st μ (zjn2 b kk) := hb kk hk
def zfix3 {α : Type} {T0 : Type} {T1 : Type} {T2 : Type} (b : (T0 → T1 → T2 → Option α) → T0 → T1 → T2 → Option α) : Nat → T0 → T1 → T2 → Option α
  | 0 => fun _ _ _ => none
  | m + 1 => b (zfix3 b m)
def zjn3 {α : Type} {T0 : Type} {T1 : Type} {T2 : Type} (b : (T0 → T1 → T2 → α) → α) (k : T0 → T1 → T2 → α) : α := b k
theorem zj_fix3 {τ : Type} {g : zG} {y : zY} {d mc ms : Nat} {w : τ → Option Value × zS} {o : τ} {k n pc : Nat} {T0 : Type} {T1 : Type} {T2 : Type} {b : (T0 → T1 → T2 → Option τ) → T0 → T1 → T2 → Option τ} {N : Nat} (LS : T0 → T1 → T2 → List (Option Value)) (MU : T0 → T1 → T2 → zS) (h : ∀ rec : T0 → T1 → T2 → Option τ, (∀ x0 x1 x2, zJ g y d mc ms w o k n pc (LS x0 x1 x2) [] (MU x0 x1 x2) (rec x0 x1 x2)) → ∀ x0 x1 x2, zJ g y d mc ms w o k n pc (LS x0 x1 x2) [] (MU x0 x1 x2) (b rec x0 x1 x2)) (x0 : _) (x1 : _) (x2 : _) : zJ g y d mc ms w o k n pc (LS x0 x1 x2) [] (MU x0 x1 x2) (zfix3 b N x0 x1 x2) := by
  induction N generalizing x0 x1 x2 with
  | zero => intro hf; cases hf
  | succ N ih => exact h (zfix3 b N) (fun x0 x1 x2 => ih x0 x1 x2) x0 x1 x2
theorem zj_jn3 {τ : Type} {g : zG} {y : zY} {d mc ms : Nat} {w : τ → Option Value × zS} {o : τ} {k n pc : Nat} {T0 : Type} {T1 : Type} {T2 : Type} {pcj : Nat} {ls : List (Option Value)} {st : List Value} {μ : zS} {b : (T0 → T1 → T2 → Option τ) → Option τ} {kk : T0 → T1 → T2 → Option τ} (LS : T0 → T1 → T2 → List (Option Value)) (ST : T0 → T1 → T2 → List Value) (MU : T0 → T1 → T2 → zS) (hk : ∀ x0 x1 x2, zJ g y d mc ms w o k n pcj (LS x0 x1 x2) (ST x0 x1 x2) (MU x0 x1 x2) (kk x0 x1 x2)) (hb : ∀ j : T0 → T1 → T2 → Option τ, (∀ x0 x1 x2, zJ g y d mc ms w o k n pcj (LS x0 x1 x2) (ST x0 x1 x2) (MU x0 x1 x2) (j x0 x1 x2)) → zJ g y d mc ms w o k n pc ls st μ (b j)) : zJ g y d mc ms w o k n pc ls st μ (zjn3 b kk) := hb kk hk
def zfix4 {α : Type} {T0 : Type} {T1 : Type} {T2 : Type} {T3 : Type} (b : (T0 → T1 → T2 → T3 → Option α) → T0 → T1 → T2 → T3 → Option α) : Nat → T0 → T1 → T2 → T3 → Option α
  | 0 => fun _ _ _ _ => none
  | m + 1 => b (zfix4 b m)
def zjn4 {α : Type} {T0 : Type} {T1 : Type} {T2 : Type} {T3 : Type} (b : (T0 → T1 → T2 → T3 → α) → α) (k : T0 → T1 → T2 → T3 → α) : α := b k
theorem zj_fix4 {τ : Type} {g : zG} {y : zY} {d mc ms : Nat} {w : τ → Option Value × zS} {o : τ} {k n pc : Nat} {T0 : Type} {T1 : Type} {T2 : Type} {T3 : Type} {b : (T0 → T1 → T2 → T3 → Option τ) → T0 → T1 → T2 → T3 → Option τ} {N : Nat} (LS : T0 → T1 → T2 → T3 → List (Option Value)) (MU : T0 → T1 → T2 → T3 → zS) (h : ∀ rec : T0 → T1 → T2 → T3 → Option τ, (∀ x0 x1 x2 x3, zJ g y d mc ms w o k n pc (LS x0 x1 x2 x3) [] (MU x0 x1 x2 x3) (rec x0 x1 x2 x3)) → ∀ x0 x1 x2 x3, zJ g y d mc ms w o k n pc (LS x0 x1 x2 x3) [] (MU x0 x1 x2 x3) (b rec x0 x1 x2 x3)) (x0 : _) (x1 : _) (x2 : _) (x3 : _) : zJ g y d mc ms w o k n pc (LS x0 x1 x2 x3) [] (MU x0 x1 x2 x3) (zfix4 b N x0 x1 x2 x3) := by
  induction N generalizing x0 x1 x2 x3 with
  | zero => intro hf; cases hf
  | succ N ih => exact h (zfix4 b N) (fun x0 x1 x2 x3 => ih x0 x1 x2 x3) x0 x1 x2 x3
theorem zj_jn4 {τ : Type} {g : zG} {y : zY} {d mc ms : Nat} {w : τ → Option Value × zS} {o : τ} {k n pc : Nat} {T0 : Type} {T1 : Type} {T2 : Type} {T3 : Type} {pcj : Nat} {ls : List (Option Value)} {st : List Value} {μ : zS} {b : (T0 → T1 → T2 → T3 → Option τ) → Option τ} {kk : T0 → T1 → T2 → T3 → Option τ} (LS : T0 → T1 → T2 → T3 → List (Option Value)) (ST : T0 → T1 → T2 → T3 → List Value) (MU : T0 → T1 → T2 → T3 → zS) (hk : ∀ x0 x1 x2 x3, zJ g y d mc ms w o k n pcj (LS x0 x1 x2 x3) (ST x0 x1 x2 x3) (MU x0 x1 x2 x3) (kk x0 x1 x2 x3)) (hb : ∀ j : T0 → T1 → T2 → T3 → Option τ, (∀ x0 x1 x2 x3, zJ g y d mc ms w o k n pcj (LS x0 x1 x2 x3) (ST x0 x1 x2 x3) (MU x0 x1 x2 x3) (j x0 x1 x2 x3)) → zJ g y d mc ms w o k n pc ls st μ (b j)) : zJ g y d mc ms w o k n pc ls st μ (zjn4 b kk) := hb kk hk
def zfix5 {α : Type} {T0 : Type} {T1 : Type} {T2 : Type} {T3 : Type} {T4 : Type} (b : (T0 → T1 → T2 → T3 → T4 → Option α) → T0 → T1 → T2 → T3 → T4 → Option α) : Nat → T0 → T1 → T2 → T3 → T4 → Option α
  | 0 => fun _ _ _ _ _ => none
  | m + 1 => b (zfix5 b m)
def zjn5 {α : Type} {T0 : Type} {T1 : Type} {T2 : Type} {T3 : Type} {T4 : Type} (b : (T0 → T1 → T2 → T3 → T4 → α) → α) (k : T0 → T1 → T2 → T3 → T4 → α) : α := b k
theorem zj_fix5 {τ : Type} {g : zG} {y : zY} {d mc ms : Nat} {w : τ → Option Value × zS} {o : τ} {k n pc : Nat} {T0 : Type} {T1 : Type} {T2 : Type} {T3 : Type} {T4 : Type} {b : (T0 → T1 → T2 → T3 → T4 → Option τ) → T0 → T1 → T2 → T3 → T4 → Option τ} {N : Nat} (LS : T0 → T1 → T2 → T3 → T4 → List (Option Value)) (MU : T0 → T1 → T2 → T3 → T4 → zS) (h : ∀ rec : T0 → T1 → T2 → T3 → T4 → Option τ, (∀ x0 x1 x2 x3 x4, zJ g y d mc ms w o k n pc (LS x0 x1 x2 x3 x4) [] (MU x0 x1 x2 x3 x4) (rec x0 x1 x2 x3 x4)) → ∀ x0 x1 x2 x3 x4, zJ g y d mc ms w o k n pc (LS x0 x1 x2 x3 x4) [] (MU x0 x1 x2 x3 x4) (b rec x0 x1 x2 x3 x4)) (x0 : _) (x1 : _) (x2 : _) (x3 : _) (x4 : _) : zJ g y d mc ms w o k n pc (LS x0 x1 x2 x3 x4) [] (MU x0 x1 x2 x3 x4) (zfix5 b N x0 x1 x2 x3 x4) := by
  induction N generalizing x0 x1 x2 x3 x4 with
  | zero => intro hf; cases hf
  | succ N ih => exact h (zfix5 b N) (fun x0 x1 x2 x3 x4 => ih x0 x1 x2 x3 x4) x0 x1 x2 x3 x4
theorem zj_jn5 {τ : Type} {g : zG} {y : zY} {d mc ms : Nat} {w : τ → Option Value × zS} {o : τ} {k n pc : Nat} {T0 : Type} {T1 : Type} {T2 : Type} {T3 : Type} {T4 : Type} {pcj : Nat} {ls : List (Option Value)} {st : List Value} {μ : zS} {b : (T0 → T1 → T2 → T3 → T4 → Option τ) → Option τ} {kk : T0 → T1 → T2 → T3 → T4 → Option τ} (LS : T0 → T1 → T2 → T3 → T4 → List (Option Value)) (ST : T0 → T1 → T2 → T3 → T4 → List Value) (MU : T0 → T1 → T2 → T3 → T4 → zS) (hk : ∀ x0 x1 x2 x3 x4, zJ g y d mc ms w o k n pcj (LS x0 x1 x2 x3 x4) (ST x0 x1 x2 x3 x4) (MU x0 x1 x2 x3 x4) (kk x0 x1 x2 x3 x4)) (hb : ∀ j : T0 → T1 → T2 → T3 → T4 → Option τ, (∀ x0 x1 x2 x3 x4, zJ g y d mc ms w o k n pcj (LS x0 x1 x2 x3 x4) (ST x0 x1 x2 x3 x4) (MU x0 x1 x2 x3 x4) (j x0 x1 x2 x3 x4)) → zJ g y d mc ms w o k n pc ls st μ (b j)) : zJ g y d mc ms w o k n pc ls st μ (zjn5 b kk) := hb kk hk
def zfix6 {α : Type} {T0 : Type} {T1 : Type} {T2 : Type} {T3 : Type} {T4 : Type} {T5 : Type} (b : (T0 → T1 → T2 → T3 → T4 → T5 → Option α) → T0 → T1 → T2 → T3 → T4 → T5 → Option α) : Nat → T0 → T1 → T2 → T3 → T4 → T5 → Option α
  | 0 => fun _ _ _ _ _ _ => none
  | m + 1 => b (zfix6 b m)
def zjn6 {α : Type} {T0 : Type} {T1 : Type} {T2 : Type} {T3 : Type} {T4 : Type} {T5 : Type} (b : (T0 → T1 → T2 → T3 → T4 → T5 → α) → α) (k : T0 → T1 → T2 → T3 → T4 → T5 → α) : α := b k
theorem zj_fix6 {τ : Type} {g : zG} {y : zY} {d mc ms : Nat} {w : τ → Option Value × zS} {o : τ} {k n pc : Nat} {T0 : Type} {T1 : Type} {T2 : Type} {T3 : Type} {T4 : Type} {T5 : Type} {b : (T0 → T1 → T2 → T3 → T4 → T5 → Option τ) → T0 → T1 → T2 → T3 → T4 → T5 → Option τ} {N : Nat} (LS : T0 → T1 → T2 → T3 → T4 → T5 → List (Option Value)) (MU : T0 → T1 → T2 → T3 → T4 → T5 → zS) (h : ∀ rec : T0 → T1 → T2 → T3 → T4 → T5 → Option τ, (∀ x0 x1 x2 x3 x4 x5, zJ g y d mc ms w o k n pc (LS x0 x1 x2 x3 x4 x5) [] (MU x0 x1 x2 x3 x4 x5) (rec x0 x1 x2 x3 x4 x5)) → ∀ x0 x1 x2 x3 x4 x5, zJ g y d mc ms w o k n pc (LS x0 x1 x2 x3 x4 x5) [] (MU x0 x1 x2 x3 x4 x5) (b rec x0 x1 x2 x3 x4 x5)) (x0 : _) (x1 : _) (x2 : _) (x3 : _) (x4 : _) (x5 : _) : zJ g y d mc ms w o k n pc (LS x0 x1 x2 x3 x4 x5) [] (MU x0 x1 x2 x3 x4 x5) (zfix6 b N x0 x1 x2 x3 x4 x5) := by
  induction N generalizing x0 x1 x2 x3 x4 x5 with
  | zero => intro hf; cases hf
  | succ N ih => exact h (zfix6 b N) (fun x0 x1 x2 x3 x4 x5 => ih x0 x1 x2 x3 x4 x5) x0 x1 x2 x3 x4 x5
theorem zj_jn6 {τ : Type} {g : zG} {y : zY} {d mc ms : Nat} {w : τ → Option Value × zS} {o : τ} {k n pc : Nat} {T0 : Type} {T1 : Type} {T2 : Type} {T3 : Type} {T4 : Type} {T5 : Type} {pcj : Nat} {ls : List (Option Value)} {st : List Value} {μ : zS} {b : (T0 → T1 → T2 → T3 → T4 → T5 → Option τ) → Option τ} {kk : T0 → T1 → T2 → T3 → T4 → T5 → Option τ} (LS : T0 → T1 → T2 → T3 → T4 → T5 → List (Option Value)) (ST : T0 → T1 → T2 → T3 → T4 → T5 → List Value) (MU : T0 → T1 → T2 → T3 → T4 → T5 → zS) (hk : ∀ x0 x1 x2 x3 x4 x5, zJ g y d mc ms w o k n pcj (LS x0 x1 x2 x3 x4 x5) (ST x0 x1 x2 x3 x4 x5) (MU x0 x1 x2 x3 x4 x5) (kk x0 x1 x2 x3 x4 x5)) (hb : ∀ j : T0 → T1 → T2 → T3 → T4 → T5 → Option τ, (∀ x0 x1 x2 x3 x4 x5, zJ g y d mc ms w o k n pcj (LS x0 x1 x2 x3 x4 x5) (ST x0 x1 x2 x3 x4 x5) (MU x0 x1 x2 x3 x4 x5) (j x0 x1 x2 x3 x4 x5)) → zJ g y d mc ms w o k n pc ls st μ (b j)) : zJ g y d mc ms w o k n pc ls st μ (zjn6 b kk) := hb kk hk
def zfix7 {α : Type} {T0 : Type} {T1 : Type} {T2 : Type} {T3 : Type} {T4 : Type} {T5 : Type} {T6 : Type} (b : (T0 → T1 → T2 → T3 → T4 → T5 → T6 → Option α) → T0 → T1 → T2 → T3 → T4 → T5 → T6 → Option α) : Nat → T0 → T1 → T2 → T3 → T4 → T5 → T6 → Option α
  | 0 => fun _ _ _ _ _ _ _ => none
  | m + 1 => b (zfix7 b m)
def zjn7 {α : Type} {T0 : Type} {T1 : Type} {T2 : Type} {T3 : Type} {T4 : Type} {T5 : Type} {T6 : Type} (b : (T0 → T1 → T2 → T3 → T4 → T5 → T6 → α) → α) (k : T0 → T1 → T2 → T3 → T4 → T5 → T6 → α) : α := b k
theorem zj_fix7 {τ : Type} {g : zG} {y : zY} {d mc ms : Nat} {w : τ → Option Value × zS} {o : τ} {k n pc : Nat} {T0 : Type} {T1 : Type} {T2 : Type} {T3 : Type} {T4 : Type} {T5 : Type} {T6 : Type} {b : (T0 → T1 → T2 → T3 → T4 → T5 → T6 → Option τ) → T0 → T1 → T2 → T3 → T4 → T5 → T6 → Option τ} {N : Nat} (LS : T0 → T1 → T2 → T3 → T4 → T5 → T6 → List (Option Value)) (MU : T0 → T1 → T2 → T3 → T4 → T5 → T6 → zS) (h : ∀ rec : T0 → T1 → T2 → T3 → T4 → T5 → T6 → Option τ, (∀ x0 x1 x2 x3 x4 x5 x6, zJ g y d mc ms w o k n pc (LS x0 x1 x2 x3 x4 x5 x6) [] (MU x0 x1 x2 x3 x4 x5 x6) (rec x0 x1 x2 x3 x4 x5 x6)) → ∀ x0 x1 x2 x3 x4 x5 x6, zJ g y d mc ms w o k n pc (LS x0 x1 x2 x3 x4 x5 x6) [] (MU x0 x1 x2 x3 x4 x5 x6) (b rec x0 x1 x2 x3 x4 x5 x6)) (x0 : _) (x1 : _) (x2 : _) (x3 : _) (x4 : _) (x5 : _) (x6 : _) : zJ g y d mc ms w o k n pc (LS x0 x1 x2 x3 x4 x5 x6) [] (MU x0 x1 x2 x3 x4 x5 x6) (zfix7 b N x0 x1 x2 x3 x4 x5 x6) := by
  induction N generalizing x0 x1 x2 x3 x4 x5 x6 with
  | zero => intro hf; cases hf
  | succ N ih => exact h (zfix7 b N) (fun x0 x1 x2 x3 x4 x5 x6 => ih x0 x1 x2 x3 x4 x5 x6) x0 x1 x2 x3 x4 x5 x6
theorem zj_jn7 {τ : Type} {g : zG} {y : zY} {d mc ms : Nat} {w : τ → Option Value × zS} {o : τ} {k n pc : Nat} {T0 : Type} {T1 : Type} {T2 : Type} {T3 : Type} {T4 : Type} {T5 : Type} {T6 : Type} {pcj : Nat} {ls : List (Option Value)} {st : List Value} {μ : zS} {b : (T0 → T1 → T2 → T3 → T4 → T5 → T6 → Option τ) → Option τ} {kk : T0 → T1 → T2 → T3 → T4 → T5 → T6 → Option τ} (LS : T0 → T1 → T2 → T3 → T4 → T5 → T6 → List (Option Value)) (ST : T0 → T1 → T2 → T3 → T4 → T5 → T6 → List Value) (MU : T0 → T1 → T2 → T3 → T4 → T5 → T6 → zS) (hk : ∀ x0 x1 x2 x3 x4 x5 x6, zJ g y d mc ms w o k n pcj (LS x0 x1 x2 x3 x4 x5 x6) (ST x0 x1 x2 x3 x4 x5 x6) (MU x0 x1 x2 x3 x4 x5 x6) (kk x0 x1 x2 x3 x4 x5 x6)) (hb : ∀ j : T0 → T1 → T2 → T3 → T4 → T5 → T6 → Option τ, (∀ x0 x1 x2 x3 x4 x5 x6, zJ g y d mc ms w o k n pcj (LS x0 x1 x2 x3 x4 x5 x6) (ST x0 x1 x2 x3 x4 x5 x6) (MU x0 x1 x2 x3 x4 x5 x6) (j x0 x1 x2 x3 x4 x5 x6)) → zJ g y d mc ms w o k n pc ls st μ (b j)) : zJ g y d mc ms w o k n pc ls st μ (zjn7 b kk) := hb kk hk
def zfix8 {α : Type} {T0 : Type} {T1 : Type} {T2 : Type} {T3 : Type} {T4 : Type} {T5 : Type} {T6 : Type} {T7 : Type} (b : (T0 → T1 → T2 → T3 → T4 → T5 → T6 → T7 → Option α) → T0 → T1 → T2 → T3 → T4 → T5 → T6 → T7 → Option α) : Nat → T0 → T1 → T2 → T3 → T4 → T5 → T6 → T7 → Option α
  | 0 => fun _ _ _ _ _ _ _ _ => none
  | m + 1 => b (zfix8 b m)
def zjn8 {α : Type} {T0 : Type} {T1 : Type} {T2 : Type} {T3 : Type} {T4 : Type} {T5 : Type} {T6 : Type} {T7 : Type} (b : (T0 → T1 → T2 → T3 → T4 → T5 → T6 → T7 → α) → α) (k : T0 → T1 → T2 → T3 → T4 → T5 → T6 → T7 → α) : α := b k
theorem zj_fix8 {τ : Type} {g : zG} {y : zY} {d mc ms : Nat} {w : τ → Option Value × zS} {o : τ} {k n pc : Nat} {T0 : Type} {T1 : Type} {T2 : Type} {T3 : Type} {T4 : Type} {T5 : Type} {T6 : Type} {T7 : Type} {b : (T0 → T1 → T2 → T3 → T4 → T5 → T6 → T7 → Option τ) → T0 → T1 → T2 → T3 → T4 → T5 → T6 → T7 → Option τ} {N : Nat} (LS : T0 → T1 → T2 → T3 → T4 → T5 → T6 → T7 → List (Option Value)) (MU : T0 → T1 → T2 → T3 → T4 → T5 → T6 → T7 → zS) (h : ∀ rec : T0 → T1 → T2 → T3 → T4 → T5 → T6 → T7 → Option τ, (∀ x0 x1 x2 x3 x4 x5 x6 x7, zJ g y d mc ms w o k n pc (LS x0 x1 x2 x3 x4 x5 x6 x7) [] (MU x0 x1 x2 x3 x4 x5 x6 x7) (rec x0 x1 x2 x3 x4 x5 x6 x7)) → ∀ x0 x1 x2 x3 x4 x5 x6 x7, zJ g y d mc ms w o k n pc (LS x0 x1 x2 x3 x4 x5 x6 x7) [] (MU x0 x1 x2 x3 x4 x5 x6 x7) (b rec x0 x1 x2 x3 x4 x5 x6 x7)) (x0 : _) (x1 : _) (x2 : _) (x3 : _) (x4 : _) (x5 : _) (x6 : _) (x7 : _) : zJ g y d mc ms w o k n pc (LS x0 x1 x2 x3 x4 x5 x6 x7) [] (MU x0 x1 x2 x3 x4 x5 x6 x7) (zfix8 b N x0 x1 x2 x3 x4 x5 x6 x7) := by
  induction N generalizing x0 x1 x2 x3 x4 x5 x6 x7 with
  | zero => intro hf; cases hf
  | succ N ih => exact h (zfix8 b N) (fun x0 x1 x2 x3 x4 x5 x6 x7 => ih x0 x1 x2 x3 x4 x5 x6 x7) x0 x1 x2 x3 x4 x5 x6 x7
theorem zj_jn8 {τ : Type} {g : zG} {y : zY} {d mc ms : Nat} {w : τ → Option Value × zS} {o : τ} {k n pc : Nat} {T0 : Type} {T1 : Type} {T2 : Type} {T3 : Type} {T4 : Type} {T5 : Type} {T6 : Type} {T7 : Type} {pcj : Nat} {ls : List (Option Value)} {st : List Value} {μ : zS} {b : (T0 → T1 → T2 → T3 → T4 → T5 → T6 → T7 → Option τ) → Option τ} {kk : T0 → T1 → T2 → T3 → T4 → T5 → T6 → T7 → Option τ} (LS : T0 → T1 → T2 → T3 → T4 → T5 → T6 → T7 → List (Option Value)) (ST : T0 → T1 → T2 → T3 → T4 → T5 → T6 → T7 → List Value) (MU : T0 → T1 → T2 → T3 → T4 → T5 → T6 → T7 → zS) (hk : ∀ x0 x1 x2 x3 x4 x5 x6 x7, zJ g y d mc ms w o k n pcj (LS x0 x1 x2 x3 x4 x5 x6 x7) (ST x0 x1 x2 x3 x4 x5 x6 x7) (MU x0 x1 x2 x3 x4 x5 x6 x7) (kk x0 x1 x2 x3 x4 x5 x6 x7)) (hb : ∀ j : T0 → T1 → T2 → T3 → T4 → T5 → T6 → T7 → Option τ, (∀ x0 x1 x2 x3 x4 x5 x6 x7, zJ g y d mc ms w o k n pcj (LS x0 x1 x2 x3 x4 x5 x6 x7) (ST x0 x1 x2 x3 x4 x5 x6 x7) (MU x0 x1 x2 x3 x4 x5 x6 x7) (j x0 x1 x2 x3 x4 x5 x6 x7)) → zJ g y d mc ms w o k n pc ls st μ (b j)) : zJ g y d mc ms w o k n pc ls st μ (zjn8 b kk) := hb kk hk
def zfix9 {α : Type} {T0 : Type} {T1 : Type} {T2 : Type} {T3 : Type} {T4 : Type} {T5 : Type} {T6 : Type} {T7 : Type} {T8 : Type} (b : (T0 → T1 → T2 → T3 → T4 → T5 → T6 → T7 → T8 → Option α) → T0 → T1 → T2 → T3 → T4 → T5 → T6 → T7 → T8 → Option α) : Nat → T0 → T1 → T2 → T3 → T4 → T5 → T6 → T7 → T8 → Option α
  | 0 => fun _ _ _ _ _ _ _ _ _ => none
  | m + 1 => b (zfix9 b m)
def zjn9 {α : Type} {T0 : Type} {T1 : Type} {T2 : Type} {T3 : Type} {T4 : Type} {T5 : Type} {T6 : Type} {T7 : Type} {T8 : Type} (b : (T0 → T1 → T2 → T3 → T4 → T5 → T6 → T7 → T8 → α) → α) (k : T0 → T1 → T2 → T3 → T4 → T5 → T6 → T7 → T8 → α) : α := b k
theorem zj_fix9 {τ : Type} {g : zG} {y : zY} {d mc ms : Nat} {w : τ → Option Value × zS} {o : τ} {k n pc : Nat} {T0 : Type} {T1 : Type} {T2 : Type} {T3 : Type} {T4 : Type} {T5 : Type} {T6 : Type} {T7 : Type} {T8 : Type} {b : (T0 → T1 → T2 → T3 → T4 → T5 → T6 → T7 → T8 → Option τ) → T0 → T1 → T2 → T3 → T4 → T5 → T6 → T7 → T8 → Option τ} {N : Nat} (LS : T0 → T1 → T2 → T3 → T4 → T5 → T6 → T7 → T8 → List (Option Value)) (MU : T0 → T1 → T2 → T3 → T4 → T5 → T6 → T7 → T8 → zS) (h : ∀ rec : T0 → T1 → T2 → T3 → T4 → T5 → T6 → T7 → T8 → Option τ, (∀ x0 x1 x2 x3 x4 x5 x6 x7 x8, zJ g y d mc ms w o k n pc (LS x0 x1 x2 x3 x4 x5 x6 x7 x8) [] (MU x0 x1 x2 x3 x4 x5 x6 x7 x8) (rec x0 x1 x2 x3 x4 x5 x6 x7 x8)) → ∀ x0 x1 x2 x3 x4 x5 x6 x7 x8, zJ g y d mc ms w o k n pc (LS x0 x1 x2 x3 x4 x5 x6 x7 x8) [] (MU x0 x1 x2 x3 x4 x5 x6 x7 x8) (b rec x0 x1 x2 x3 x4 x5 x6 x7 x8)) (x0 : _) (x1 : _) (x2 : _) (x3 : _) (x4 : _) (x5 : _) (x6 : _) (x7 : _) (x8 : _) : zJ g y d mc ms w o k n pc (LS x0 x1 x2 x3 x4 x5 x6 x7 x8) [] (MU x0 x1 x2 x3 x4 x5 x6 x7 x8) (zfix9 b N x0 x1 x2 x3 x4 x5 x6 x7 x8) := by
  induction N generalizing x0 x1 x2 x3 x4 x5 x6 x7 x8 with
  | zero => intro hf; cases hf
  | succ N ih => exact h (zfix9 b N) (fun x0 x1 x2 x3 x4 x5 x6 x7 x8 => ih x0 x1 x2 x3 x4 x5 x6 x7 x8) x0 x1 x2 x3 x4 x5 x6 x7 x8
theorem zj_jn9 {τ : Type} {g : zG} {y : zY} {d mc ms : Nat} {w : τ → Option Value × zS} {o : τ} {k n pc : Nat} {T0 : Type} {T1 : Type} {T2 : Type} {T3 : Type} {T4 : Type} {T5 : Type} {T6 : Type} {T7 : Type} {T8 : Type} {pcj : Nat} {ls : List (Option Value)} {st : List Value} {μ : zS} {b : (T0 → T1 → T2 → T3 → T4 → T5 → T6 → T7 → T8 → Option τ) → Option τ} {kk : T0 → T1 → T2 → T3 → T4 → T5 → T6 → T7 → T8 → Option τ} (LS : T0 → T1 → T2 → T3 → T4 → T5 → T6 → T7 → T8 → List (Option Value)) (ST : T0 → T1 → T2 → T3 → T4 → T5 → T6 → T7 → T8 → List Value) (MU : T0 → T1 → T2 → T3 → T4 → T5 → T6 → T7 → T8 → zS) (hk : ∀ x0 x1 x2 x3 x4 x5 x6 x7 x8, zJ g y d mc ms w o k n pcj (LS x0 x1 x2 x3 x4 x5 x6 x7 x8) (ST x0 x1 x2 x3 x4 x5 x6 x7 x8) (MU x0 x1 x2 x3 x4 x5 x6 x7 x8) (kk x0 x1 x2 x3 x4 x5 x6 x7 x8)) (hb : ∀ j : T0 → T1 → T2 → T3 → T4 → T5 → T6 → T7 → T8 → Option τ, (∀ x0 x1 x2 x3 x4 x5 x6 x7 x8, zJ g y d mc ms w o k n pcj (LS x0 x1 x2 x3 x4 x5 x6 x7 x8) (ST x0 x1 x2 x3 x4 x5 x6 x7 x8) (MU x0 x1 x2 x3 x4 x5 x6 x7 x8) (j x0 x1 x2 x3 x4 x5 x6 x7 x8)) → zJ g y d mc ms w o k n pc ls st μ (b j)) : zJ g y d mc ms w o k n pc ls st μ (zjn9 b kk) := hb kk hk
def zfix10 {α : Type} {T0 : Type} {T1 : Type} {T2 : Type} {T3 : Type} {T4 : Type} {T5 : Type} {T6 : Type} {T7 : Type} {T8 : Type} {T9 : Type} (b : (T0 → T1 → T2 → T3 → T4 → T5 → T6 → T7 → T8 → T9 → Option α) → T0 → T1 → T2 → T3 → T4 → T5 → T6 → T7 → T8 → T9 → Option α) : Nat → T0 → T1 → T2 → T3 → T4 → T5 → T6 → T7 → T8 → T9 → Option α
  | 0 => fun _ _ _ _ _ _ _ _ _ _ => none
  | m + 1 => b (zfix10 b m)
def zjn10 {α : Type} {T0 : Type} {T1 : Type} {T2 : Type} {T3 : Type} {T4 : Type} {T5 : Type} {T6 : Type} {T7 : Type} {T8 : Type} {T9 : Type} (b : (T0 → T1 → T2 → T3 → T4 → T5 → T6 → T7 → T8 → T9 → α) → α) (k : T0 → T1 → T2 → T3 → T4 → T5 → T6 → T7 → T8 → T9 → α) : α := b k
theorem zj_fix10 {τ : Type} {g : zG} {y : zY} {d mc ms : Nat} {w : τ → Option Value × zS} {o : τ} {k n pc : Nat} {T0 : Type} {T1 : Type} {T2 : Type} {T3 : Type} {T4 : Type} {T5 : Type} {T6 : Type} {T7 : Type} {T8 : Type} {T9 : Type} {b : (T0 → T1 → T2 → T3 → T4 → T5 → T6 → T7 → T8 → T9 → Option τ) → T0 → T1 → T2 → T3 → T4 → T5 → T6 → T7 → T8 → T9 → Option τ} {N : Nat} (LS : T0 → T1 → T2 → T3 → T4 → T5 → T6 → T7 → T8 → T9 → List (Option Value)) (MU : T0 → T1 → T2 → T3 → T4 → T5 → T6 → T7 → T8 → T9 → zS) (h : ∀ rec : T0 → T1 → T2 → T3 → T4 → T5 → T6 → T7 → T8 → T9 → Option τ, (∀ x0 x1 x2 x3 x4 x5 x6 x7 x8 x9, zJ g y d mc ms w o k n pc (LS x0 x1 x2 x3 x4 x5 x6 x7 x8 x9) [] (MU x0 x1 x2 x3 x4 x5 x6 x7 x8 x9) (rec x0 x1 x2 x3 x4 x5 x6 x7 x8 x9)) → ∀ x0 x1 x2 x3 x4 x5 x6 x7 x8 x9, zJ g y d mc ms w o k n pc (LS x0 x1 x2 x3 x4 x5 x6 x7 x8 x9) [] (MU x0 x1 x2 x3 x4 x5 x6 x7 x8 x9) (b rec x0 x1 x2 x3 x4 x5 x6 x7 x8 x9)) (x0 : _) (x1 : _) (x2 : _) (x3 : _) (x4 : _) (x5 : _) (x6 : _) (x7 : _) (x8 : _) (x9 : _) : zJ g y d mc ms w o k n pc (LS x0 x1 x2 x3 x4 x5 x6 x7 x8 x9) [] (MU x0 x1 x2 x3 x4 x5 x6 x7 x8 x9) (zfix10 b N x0 x1 x2 x3 x4 x5 x6 x7 x8 x9) := by
  induction N generalizing x0 x1 x2 x3 x4 x5 x6 x7 x8 x9 with
  | zero => intro hf; cases hf
  | succ N ih => exact h (zfix10 b N) (fun x0 x1 x2 x3 x4 x5 x6 x7 x8 x9 => ih x0 x1 x2 x3 x4 x5 x6 x7 x8 x9) x0 x1 x2 x3 x4 x5 x6 x7 x8 x9
theorem zj_jn10 {τ : Type} {g : zG} {y : zY} {d mc ms : Nat} {w : τ → Option Value × zS} {o : τ} {k n pc : Nat} {T0 : Type} {T1 : Type} {T2 : Type} {T3 : Type} {T4 : Type} {T5 : Type} {T6 : Type} {T7 : Type} {T8 : Type} {T9 : Type} {pcj : Nat} {ls : List (Option Value)} {st : List Value} {μ : zS} {b : (T0 → T1 → T2 → T3 → T4 → T5 → T6 → T7 → T8 → T9 → Option τ) → Option τ} {kk : T0 → T1 → T2 → T3 → T4 → T5 → T6 → T7 → T8 → T9 → Option τ} (LS : T0 → T1 → T2 → T3 → T4 → T5 → T6 → T7 → T8 → T9 → List (Option Value)) (ST : T0 → T1 → T2 → T3 → T4 → T5 → T6 → T7 → T8 → T9 → List Value) (MU : T0 → T1 → T2 → T3 → T4 → T5 → T6 → T7 → T8 → T9 → zS) (hk : ∀ x0 x1 x2 x3 x4 x5 x6 x7 x8 x9, zJ g y d mc ms w o k n pcj (LS x0 x1 x2 x3 x4 x5 x6 x7 x8 x9) (ST x0 x1 x2 x3 x4 x5 x6 x7 x8 x9) (MU x0 x1 x2 x3 x4 x5 x6 x7 x8 x9) (kk x0 x1 x2 x3 x4 x5 x6 x7 x8 x9)) (hb : ∀ j : T0 → T1 → T2 → T3 → T4 → T5 → T6 → T7 → T8 → T9 → Option τ, (∀ x0 x1 x2 x3 x4 x5 x6 x7 x8 x9, zJ g y d mc ms w o k n pcj (LS x0 x1 x2 x3 x4 x5 x6 x7 x8 x9) (ST x0 x1 x2 x3 x4 x5 x6 x7 x8 x9) (MU x0 x1 x2 x3 x4 x5 x6 x7 x8 x9) (j x0 x1 x2 x3 x4 x5 x6 x7 x8 x9)) → zJ g y d mc ms w o k n pc ls st μ (b j)) : zJ g y d mc ms w o k n pc ls st μ (zjn10 b kk) := hb kk hk
end
section
-- ===== reading and writing =====
/-- an object of a kind -/
def zob (μ : zS) (ci : Nat) (r : Option Nat) : Option Nat := match r with
  | some a => if μ.1[a]? = some (.inr ci) then some a else none
  | none => none
def zgI (μ : zS) (ci : Nat) (r : Option Nat) (q : Nat) : Option Int32 := (zob μ ci r).map (fun a => μ.2.1 a q)
def zgR (μ : zS) (ci : Nat) (r : Option Nat) (q : Nat) : Option (Option Nat) := (zob μ ci r).map (fun a => μ.2.2.2 a q)
def zuI (μ : zS) (a q : Nat) (v : Int32) : zS := (μ.1, fun b j => if b = a ∧ j = q then v else μ.2.1 b j, μ.2.2)
def zuJ (μ : zS) (a q : Nat) (v : Int64) : zS := (μ.1, μ.2.1, fun b j => if b = a ∧ j = q then v else μ.2.2.1 b j, μ.2.2.2)
def zuR (μ : zS) (a q : Nat) (v : Option Nat) : zS := (μ.1, μ.2.1, μ.2.2.1, fun b j => if b = a ∧ j = q then v else μ.2.2.2 b j)
def zpI (μ : zS) (ci : Nat) (r : Option Nat) (q : Nat) (v : Int32) : Option zS := (zob μ ci r).map (fun a => zuI μ a q v)
def zpZ (μ : zS) (ci : Nat) (r : Option Nat) (q : Nat) (v : Int32) : Option zS := if v = 0 ∨ v = 1 then zpI μ ci r q v else none
def zpR (μ : zS) (ci : Nat) (r : Option Nat) (q : Nat) (v : Option Nat) : Option zS := (zob μ ci r).map (fun a => zuR μ a q v)
/-- a place of a row -/
def zix (μ : zS) (ty : FieldType) (r : Option Nat) (i : Int32) : Option Nat := match r with
  | some a => match μ.1[a]? with
    | some (.inl q) => if q.1 = ty ∧ ¬ i < 0 ∧ i.toNatClampNeg < q.2 then some a else none
    | _ => none
  | none => none
def zaI (μ : zS) (ty : FieldType) (r : Option Nat) (i : Int32) : Option Int32 := (zix μ ty r i).map (fun a => μ.2.1 a i.toNatClampNeg)
def zaJ (μ : zS) (r : Option Nat) (i : Int32) : Option Int64 := (zix μ .long r i).map (fun a => μ.2.2.1 a i.toNatClampNeg)
def zaR (μ : zS) (C : String) (r : Option Nat) (i : Int32) : Option (Option Nat) := (zix μ (.object C) r i).map (fun a => μ.2.2.2 a i.toNatClampNeg)
def zsI (μ : zS) (r : Option Nat) (i v : Int32) : Option zS := (zix μ .int r i).map (fun a => zuI μ a i.toNatClampNeg v)
def zsZ (μ : zS) (r : Option Nat) (i v : Int32) : Option zS := if v = 0 ∨ v = 1 then (zix μ .boolean r i).map (fun a => zuI μ a i.toNatClampNeg v) else none
def zsC (μ : zS) (r : Option Nat) (i v : Int32) : Option zS := if vp_nar .char v = v then (zix μ .char r i).map (fun a => zuI μ a i.toNatClampNeg v) else none
def zsJ (μ : zS) (r : Option Nat) (i : Int32) (v : Int64) : Option zS := (zix μ .long r i).map (fun a => zuJ μ a i.toNatClampNeg v)
def zsR (μ : zS) (C : String) (ci : Nat) (r : Option Nat) (i : Int32) (v : Option Nat) : Option zS := (zob μ ci v).bind (fun _ => (zix μ (.object C) r i).map (fun a => zuR μ a i.toNatClampNeg v))
/-- the length of a row -/
def zln (μ : zS) (ty : FieldType) (r : Option Nat) : Option Int32 := match r with
  | some a => match μ.1[a]? with
    | some (.inl q) => if q.1 = ty then some (Int32.ofNat q.2) else none
    | _ => none
  | none => none
/-- a row of ints that was there before -/
def zol (g : zG) (t : Nat) (i : Int32) : Option Int32 := match g.2.2.2.2.1.find? (fun q => q.1 == t) with
  | some q => if ¬ i < 0 ∧ i.toNatClampNeg < q.2.1 then some (q.2.2 i.toNatClampNeg) else none
  | none => none
theorem zob_some {μ : zS} {ci : Nat} {r : Option Nat} {a : Nat} (h : zob μ ci r = some a) : r = some a ∧ μ.1[a]? = some (.inr ci) := by
  cases r with
  | none => cases h
  | some b =>
    simp only [zob] at h
    by_cases hb : μ.1[b]? = some (.inr ci)
    · rw [if_pos hb] at h; cases h; exact ⟨rfl, hb⟩
    · rw [if_neg hb] at h; cases h
theorem zix_some {μ : zS} {ty : FieldType} {r : Option Nat} {i : Int32} {a : Nat} (h : zix μ ty r i = some a) : r = some a ∧ ∃ n, μ.1[a]? = some (.inl (ty, n)) ∧ vp_in i n := by
  cases r with
  | none => cases h
  | some b =>
    simp only [zix] at h
    cases hb : μ.1[b]? with
    | none => rw [hb] at h; cases h
    | some K =>
      rw [hb] at h
      cases K with
      | inr ci => cases h
      | inl q =>
        dsimp only at h
        by_cases hc : q.1 = ty ∧ ¬ i < 0 ∧ i.toNatClampNeg < q.2
        · rw [if_pos hc] at h
          cases h
          obtain ⟨q1, q2⟩ := q
          obtain ⟨h1, h2, h3⟩ := hc
          dsimp only at h1 h2 h3
          subst h1
          exact ⟨rfl, q2, hb, fun hh => hh.elim h2 (fun h4 => by omega)⟩
        · rw [if_neg hc] at h; cases h
theorem zmap_some {α β : Type} {x : Option α} {f : α → β} {b : β} (h : x.map f = some b) : ∃ a, x = some a ∧ f a = b := by
  cases x with
  | none => cases h
  | some a => cases h; exact ⟨a, rfl, rfl⟩
theorem zbind_some {α β : Type} {x : Option α} {f : α → Option β} {b : β} (h : x.bind f = some b) : ∃ a, x = some a ∧ f a = some b := by
  cases x with
  | none => cases h
  | some a => exact ⟨a, rfl, h⟩
-- ===== the picture moves =====
theorem zE_congr {g : zG} {μ μ' : zS} {b : Nat} (h1 : μ'.2.1 b = μ.2.1 b) (h2 : μ'.2.2.1 b = μ.2.2.1 b) (h3 : μ'.2.2.2 b = μ.2.2.2 b) (K : zK) : zE g μ' b K = zE g μ b K := by
  cases K with
  | inl q =>
    obtain ⟨ty, n⟩ := q
    cases ty <;> simp [zE, zar, h1, h2, h3]
  | inr ci =>
    simp only [zE, zfs]
    congr 2
    apply List.map_congr_left
    rintro ⟨ty, j⟩ _
    cases ty <;> simp [zv, h1, h2, h3]
theorem zWs_set {g : zG} {μ μ' : zS} {a : Nat} {K : zK} {e : va_E} (h : μ.1[a]? = some K) (hL : μ'.1 = μ.1) (hoff : ∀ b, b ≠ a → ∀ K', zE g μ' b K' = zE g μ b K') (hat : zE g μ' a K = e) : (zWs g μ).set a (zB g + a, e) = zWs g μ' := by
  apply List.ext_getElem?
  intro j
  rw [zWs_at g μ' j, hL]
  by_cases hj : a = j
  · subst hj
    rw [List.getElem?_set_self (by rw [List.getElem?_eq_some_iff] at h; simp [zWs]; exact h.1), h, ← hat]
    rfl
  · rw [List.getElem?_set_ne hj, zWs_at]
    cases hK : μ.1[j]? with
    | none => rfl
    | some K' => simp [hoff j (fun q => hj q.symm) K']
theorem zuI_off (μ : zS) {a q b : Nat} (v : Int32) (h : b ≠ a) : (zuI μ a q v).2.1 b = μ.2.1 b := by funext j; simp [zuI, h]
theorem zuJ_off (μ : zS) {a q b : Nat} (v : Int64) (h : b ≠ a) : (zuJ μ a q v).2.2.1 b = μ.2.2.1 b := by funext j; simp [zuJ, h]
theorem zuR_off (μ : zS) {a q b : Nat} (v : Option Nat) (h : b ≠ a) : (zuR μ a q v).2.2.2 b = μ.2.2.2 b := by funext j; simp [zuR, h]
theorem zWs_uI {g : zG} {μ : zS} {a q : Nat} {v : Int32} {K : zK} {e : va_E} (h : μ.1[a]? = some K) (hat : zE g (zuI μ a q v) a K = e) : (zWs g μ).set a (zB g + a, e) = zWs g (zuI μ a q v) :=
  zWs_set h rfl (fun _ hb K' => zE_congr (zuI_off μ v hb) rfl rfl K') hat
theorem zWs_uJ {g : zG} {μ : zS} {a q : Nat} {v : Int64} {K : zK} {e : va_E} (h : μ.1[a]? = some K) (hat : zE g (zuJ μ a q v) a K = e) : (zWs g μ).set a (zB g + a, e) = zWs g (zuJ μ a q v) :=
  zWs_set h rfl (fun _ hb K' => zE_congr (μ := μ) (μ' := zuJ μ a q v) rfl (zuJ_off μ v hb) rfl K') hat
theorem zWs_uR {g : zG} {μ : zS} {a q : Nat} {v : Option Nat} {K : zK} {e : va_E} (h : μ.1[a]? = some K) (hat : zE g (zuR μ a q v) a K = e) : (zWs g μ).set a (zB g + a, e) = zWs g (zuR μ a q v) :=
  zWs_set h rfl (fun _ hb K' => zE_congr (μ := μ) (μ' := zuR μ a q v) rfl rfl (zuR_off μ v hb) K') hat
/-- a field of ints is set -/
theorem zfs_uI {g : zG} {μ : zS} {a q : Nat} {v : Int32} {tys : List FieldType} {ty : FieldType} (hq : tys[q]? = some ty) (hz : ∀ (g : zG) (μ : zS) (a j : Nat), zv g μ a j ty = .int (μ.2.1 a j)) : zfs g (zuI μ a q v) a tys = (zfs g μ a tys).set q (.int v) := by
  apply List.ext_getElem?
  intro j
  rw [zfs_at]
  by_cases hj : q = j
  · subst hj
    rw [List.getElem?_set_self (by rw [zfs_len]; exact (List.getElem?_eq_some_iff.mp hq).1), hq]
    simp [hz, zuI]
  · rw [List.getElem?_set_ne hj, zfs_at]
    cases tys[j]? with
    | none => rfl
    | some t => have hj2 : ¬ j = q := fun h => hj h.symm
                simp only [Option.map_some]; cases t <;> simp [zv, zuI, hj2]
theorem zfs_uR {g : zG} {μ : zS} {a q : Nat} {v : Option Nat} {tys : List FieldType} {ty : FieldType} (hq : tys[q]? = some ty) (hz : ∀ (g : zG) (μ : zS) (a j : Nat), zv g μ a j ty = zr g (μ.2.2.2 a j)) : zfs g (zuR μ a q v) a tys = (zfs g μ a tys).set q (zr g v) := by
  apply List.ext_getElem?
  intro j
  rw [zfs_at]
  by_cases hj : q = j
  · subst hj
    rw [List.getElem?_set_self (by rw [zfs_len]; exact (List.getElem?_eq_some_iff.mp hq).1), hq]
    simp [hz, zuR]
  · rw [List.getElem?_set_ne hj, zfs_at]
    cases tys[j]? with
    | none => rfl
    | some t => have hj2 : ¬ j = q := fun h => hj h.symm
                simp only [Option.map_some]; cases t <;> simp [zv, zuR, hj2]
section ZH
variable {p : Program} {l : Launch} {e : Env} {R : Room} {s : State} {m : MethodId} {args : Array Value} {below : List Frame} {meth : Method} {c : Code} {H : Heap} {locs : List Loc} {Q : State → Prop} {F : JFrame} {g : zG} {μ : zS} {k n : Nat}
theorem zsz (hk : s.heap.size + k ≤ zB g + μ.1.length) (hB : zB g ≤ s.heap.size) (hP : va_P g.2.1 vwCl (zWs g μ) H) (hS : va_S (zA g) s.heap H locs) (h : zR g μ H → W p l e R s m args below meth c H locs k n Q F) : W p l e R s m args below meth c H locs k n Q F := by
  intro T hT X
  refine h ⟨?_, hP⟩ T hT X
  have h1 : T.heap.size ≤ s.heap.size + k := X.heapSize
  rw [hT] at h1
  have h2 : s.heap.size ≤ H.size := hS.1
  have h3 : zB g + μ.1.length ≤ H.size := by
    cases hL : μ.1.length with
    | zero => omega
    | succ j =>
      have hj : j < μ.1.length := by omega
      have h4 := (hP j _ (zWs_get (List.getElem?_eq_getElem hj))).lt
      dsimp only at h4
      omega
  omega
end ZH
section ZR
variable {τ : Type} {g : zG} {y : zY} {d mc ms : Nat} {w : τ → Option Value × zS} {o : τ} {k n pc : Nat} {ls : List (Option Value)} {st : List Value} {μ : zS} {f : Option τ}
theorem zj_getI {idx ci q : Nat} {ty : FieldType} {fin : Bool} {r : Option Nat} {f : Int32 → Option τ} (hF : zFld y.1.cls idx ci q ty fin) (hz : ∀ (g : zG) (μ : zS) (a j : Nat), zv g μ a j ty = .int (μ.2.1 a j)) (hd : decode y.2.1 pc = .ok (.getfield idx, 3)) (kk : ∀ v, zJ g y d mc ms w o k n (pc + 3) ls (.int v :: st) μ (f v)) : zJ g y d mc ms w o k n pc ls (zr g r :: st) μ ((zgI μ ci r q).bind f) := by
  intro hf p e s m args below meth c H locs A hC hR hS hl hk
  obtain ⟨v, h1, hf2⟩ := zbind_some hf
  obtain ⟨a, h2, h3⟩ := zmap_some h1
  obtain ⟨rfl, hL⟩ := zob_some h2
  obtain ⟨C, T, N, hcl, hq, hty, -, -, hlk⟩ := hF
  exact va_get (D := g.2.1) (ci := ci) (v := .int v) (C := C) (T := T) (N := N) hC.1 hC.2.1 hC.2.2.2.2.2.1 hcl.2.2.2.2 hC.2.2.2.2.1 hC.2.2.2.2.2.2.1 hR.2 a (zWs_get hL) hcl.1 q hq (hC.2.2.2.2.2.1 _ hlk) (fun _ h => h) (by rw [zfs_at, hty]; simp [hz, h3]) hd (kk v hf2 p e s m args below meth c H locs A hC hR hS hl hk)
theorem zj_getR {idx ci q : Nat} {ty : FieldType} {fin : Bool} {r : Option Nat} {f : Option Nat → Option τ} (hF : zFld y.1.cls idx ci q ty fin) (hz : ∀ (g : zG) (μ : zS) (a j : Nat), zv g μ a j ty = zr g (μ.2.2.2 a j)) (hd : decode y.2.1 pc = .ok (.getfield idx, 3)) (kk : ∀ v, zJ g y d mc ms w o k n (pc + 3) ls (zr g v :: st) μ (f v)) : zJ g y d mc ms w o k n pc ls (zr g r :: st) μ ((zgR μ ci r q).bind f) := by
  intro hf p e s m args below meth c H locs A hC hR hS hl hk
  obtain ⟨v, h1, hf2⟩ := zbind_some hf
  obtain ⟨a, h2, h3⟩ := zmap_some h1
  obtain ⟨rfl, hL⟩ := zob_some h2
  obtain ⟨C, T, N, hcl, hq, hty, -, -, hlk⟩ := hF
  exact va_get (D := g.2.1) (ci := ci) (v := zr g v) (C := C) (T := T) (N := N) hC.1 hC.2.1 hC.2.2.2.2.2.1 hcl.2.2.2.2 hC.2.2.2.2.1 hC.2.2.2.2.2.2.1 hR.2 a (zWs_get hL) hcl.1 q hq (hC.2.2.2.2.2.1 _ hlk) (fun _ h => h) (by rw [zfs_at, hty]; simp [hz, h3]) hd (kk v hf2 p e s m args below meth c H locs A hC hR hS hl hk)
theorem zpd {ci : Nat} {C : String} {T : u_T} {N q : Nat} {ty : FieldType} (hcl : zCls ci C T N) (hq : q < N) (hty : (zft ci)[q]? = some ty) : parseFieldDescriptor (T q).2.2.1 = some ty := by
  rw [hcl.2.2.1 q hq, List.getD_eq_getElem?_getD, hty]; rfl
theorem zj_putI {idx ci q : Nat} {ty : FieldType} {r : Option Nat} {v : Int32} {f : zS → Option τ} (hF : zFld y.1.cls idx ci q ty false) (hz : ∀ (g : zG) (μ : zS) (a j : Nat), zv g μ a j ty = .int (μ.2.1 a j)) (hnf : narrow ty (.int v) = .int v ∧ fits ty (.int v) = true) (hd : decode y.2.1 pc = .ok (.putfield idx, 3)) (kk : ∀ μ', zJ g y d mc ms w o k n (pc + 3) ls st μ' (f μ')) : zJ g y d mc ms w o k n pc ls (.int v :: zr g r :: st) μ ((zpI μ ci r q v).bind f) := by
  intro hf p e s m args below meth c H locs A hC hR hS hl hk
  obtain ⟨μ', h1, hf2⟩ := zbind_some hf
  obtain ⟨a, h2, h3⟩ := zmap_some h1
  obtain ⟨rfl, hL⟩ := zob_some h2
  obtain ⟨C, T, N, hcl, hq, hty, hfin, -, hlk⟩ := hF
  refine va_put (D := g.2.1) (ci := ci) (v := .int v) (ty := ty) (C := C) (T := T) (N := N) hC.1 hC.2.1 hC.2.2.2.2.2.1 hcl.2.2.2.2 (fun j => (zft ci).getD j .int) hcl.2.2.1 hcl.2.2.2.1 hC.2.2.2.2.1 hC.2.2.2.2.2.2.1 hR.2 (zD μ) hS a (zWs_get hL) hcl.1 q hq (hC.2.2.2.2.2.1 _ hlk) (fun _ h => h) hfin (zpd hcl hq hty) hnf.1 hnf.2 (by rw [zfs_len, hcl.2.1]; exact hq) hd (fun H1 locs1 hP1 _ hS1 => ?_)
  have hset : (zWs g μ).set a (zB g + a, .inr (ci, (zfs g μ a (zft ci)).set q (.int v))) = zWs g μ' := by
    subst h3
    exact zWs_uI hL (by simp only [zE]; rw [zfs_uI hty hz])
  have hL1 : μ'.1 = μ.1 := by subst h3; rfl
  rw [hset] at hP1
  exact zsz (by rw [hL1]; exact hk) hC.2.2.2.2.2.2.2.2.2.1 hP1 hS1 (fun hR1 => kk μ' hf2 p e s m args below meth c H1 locs1 A hC hR1 hS1 hl (by rw [hL1]; exact hk))
theorem zj_putZ {idx ci q : Nat} {r : Option Nat} {v : Int32} {f : zS → Option τ} (hF : zFld y.1.cls idx ci q .boolean false) (hd : decode y.2.1 pc = .ok (.putfield idx, 3)) (kk : ∀ μ', zJ g y d mc ms w o k n (pc + 3) ls st μ' (f μ')) : zJ g y d mc ms w o k n pc ls (.int v :: zr g r :: st) μ ((zpZ μ ci r q v).bind f) := by
  intro hf
  unfold zpZ at hf
  by_cases hv : v = 0 ∨ v = 1
  · rw [if_pos hv] at hf
    exact zj_putI hF (fun _ _ _ _ => rfl) (by rcases hv with h | h <;> (have h : v = _ := h) <;> rw [h] <;> decide) hd kk hf
  · rw [if_neg hv] at hf; cases hf
theorem zr_cases (g : zG) (v : Option Nat) : zr g v = .null ∨ ∃ a, zr g v = .ref a := by cases v <;> simp [zr, va_rf]
/-- a reference into a field (final: in a constructor) -/
theorem zj_putR {idx ci q : Nat} {ty : FieldType} {r v : Option Nat} {f : zS → Option τ} (hF : zFld y.1.cls idx ci q ty false) (hz : ∀ (g : zG) (μ : zS) (a j : Nat), zv g μ a j ty = zr g (μ.2.2.2 a j)) (hnf : ∀ u : Value, (u = .null ∨ ∃ a, u = .ref a) → narrow ty u = u ∧ fits ty u = true) (hd : decode y.2.1 pc = .ok (.putfield idx, 3)) (kk : ∀ μ', zJ g y d mc ms w o k n (pc + 3) ls st μ' (f μ')) : zJ g y d mc ms w o k n pc ls (zr g v :: zr g r :: st) μ ((zpR μ ci r q v).bind f) := by
  intro hf p e s m args below meth c H locs A hC hR hS hl hk
  obtain ⟨μ', h1, hf2⟩ := zbind_some hf
  obtain ⟨a, h2, h3⟩ := zmap_some h1
  obtain ⟨rfl, hL⟩ := zob_some h2
  obtain ⟨C, T, N, hcl, hq, hty, hfin, -, hlk⟩ := hF
  have hnf := hnf _ (zr_cases g v)
  refine va_put (D := g.2.1) (ci := ci) (v := zr g v) (ty := ty) (C := C) (T := T) (N := N) hC.1 hC.2.1 hC.2.2.2.2.2.1 hcl.2.2.2.2 (fun j => (zft ci).getD j .int) hcl.2.2.1 hcl.2.2.2.1 hC.2.2.2.2.1 hC.2.2.2.2.2.2.1 hR.2 (zD μ) hS a (zWs_get hL) hcl.1 q hq (hC.2.2.2.2.2.1 _ hlk) (fun _ h => h) hfin (zpd hcl hq hty) hnf.1 hnf.2 (by rw [zfs_len, hcl.2.1]; exact hq) hd (fun H1 locs1 hP1 _ hS1 => ?_)
  have hset : (zWs g μ).set a (zB g + a, .inr (ci, (zfs g μ a (zft ci)).set q (zr g v))) = zWs g μ' := by
    subst h3
    exact zWs_uR hL (by simp only [zE]; rw [zfs_uR hty hz])
  have hL1 : μ'.1 = μ.1 := by subst h3; rfl
  rw [hset] at hP1
  exact zsz (by rw [hL1]; exact hk) hC.2.2.2.2.2.2.2.2.2.1 hP1 hS1 (fun hR1 => kk μ' hf2 p e s m args below meth c H1 locs1 A hC hR1 hS1 hl (by rw [hL1]; exact hk))
theorem zj_putFR {idx ci q : Nat} {ty : FieldType} {r v : Option Nat} {f : zS → Option τ} (hF : zFld y.1.cls idx ci q ty true) (hown : y.1.name = "<init>" ∧ vwCl[ci]?.map (fun z => z.1) = some y.1.cls) (hz : ∀ (g : zG) (μ : zS) (a j : Nat), zv g μ a j ty = zr g (μ.2.2.2 a j)) (hnf : ∀ u : Value, (u = .null ∨ ∃ a, u = .ref a) → narrow ty u = u ∧ fits ty u = true) (hd : decode y.2.1 pc = .ok (.putfield idx, 3)) (kk : ∀ μ', zJ g y d mc ms w o k n (pc + 3) ls st μ' (f μ')) : zJ g y d mc ms w o k n pc ls (zr g v :: zr g r :: st) μ ((zpR μ ci r q v).bind f) := by
  intro hf p e s m args below meth c H locs A hC hR hS hl hk
  obtain ⟨μ', h1, hf2⟩ := zbind_some hf
  obtain ⟨a, h2, h3⟩ := zmap_some h1
  obtain ⟨rfl, hL⟩ := zob_some h2
  obtain ⟨C, T, N, hcl, hq, hty, hfin, hdc, hlk⟩ := hF
  have hnf := hnf _ (zr_cases g v)
  have hown2 : (T q).1 = y.1.cls := by
    have h5 := hown.2
    rw [hcl.1] at h5
    rw [hdc]; exact Option.some.inj h5
  refine va_putF (D := g.2.1) (ci := ci) (v := zr g v) (ty := ty) (C := C) (T := T) (N := N) hC.1 hC.2.1 hC.2.2.2.2.2.1 hcl.2.2.2.2 (fun j => (zft ci).getD j .int) hcl.2.2.1 hcl.2.2.2.1 hC.2.2.2.2.1 hC.2.2.2.2.2.2.1 hR.2 (zD μ) hS a (zWs_get hL) hcl.1 q hq (hC.2.2.2.2.2.1 _ hlk) (fun _ h => h) hfin (hC.2.2.2.2.2.2.2.2.1.trans hown.1) hown2 (zpd hcl hq hty) hnf.1 hnf.2 (by rw [zfs_len, hcl.2.1]; exact hq) hd (fun H1 locs1 hP1 _ hS1 => ?_)
  have hset : (zWs g μ).set a (zB g + a, .inr (ci, (zfs g μ a (zft ci)).set q (zr g v))) = zWs g μ' := by
    subst h3
    exact zWs_uR hL (by simp only [zE]; rw [zfs_uR hty hz])
  have hL1 : μ'.1 = μ.1 := by subst h3; rfl
  rw [hset] at hP1
  exact zsz (by rw [hL1]; exact hk) hC.2.2.2.2.2.2.2.2.2.1 hP1 hS1 (fun hR1 => kk μ' hf2 p e s m args below meth c H1 locs1 A hC hR1 hS1 hl (by rw [hL1]; exact hk))
end ZR
end
section
-- ===== rows =====
theorem zE_uI {g : zG} {μ : zS} {a i n : Nat} {v : Int32} {ty : FieldType} (hz : ∀ (μ : zS), zar g μ a ty = .inl (μ.2.1 a)) : zE g (zuI μ a i v) a (.inl (ty, n)) = .inl (g.2.2.1 ty, n, .inl (upd (μ.2.1 a) i v)) := by
  simp only [zE, hz]
  refine congrArg (fun z => Sum.inl (g.2.2.1 ty, n, Sum.inl z)) ?_
  funext j
  by_cases h : j = i
  · simp [zuI, upd, h]
  · simp [zuI, upd, h]
section ZR
variable {τ : Type} {g : zG} {y : zY} {d mc ms : Nat} {w : τ → Option Value × zS} {o : τ} {k n pc : Nat} {ls : List (Option Value)} {st : List Value} {μ : zS} {f : Option τ}
theorem zj_iaload {r : Option Nat} {i : Int32} {f : Int32 → Option τ} (hd : decode y.2.1 pc = .ok (.iaload, 1)) (kk : ∀ v, zJ g y d mc ms w o k n (pc + 1) ls (.int v :: st) μ (f v)) : zJ g y d mc ms w o k n pc ls (.int i :: zr g r :: st) μ ((zaI μ .int r i).bind f) := by
  intro hf p e s m args below meth c H locs A hC hR hS hl hk
  obtain ⟨v, h1, hf2⟩ := zbind_some hf
  obtain ⟨a, h2, h3⟩ := zmap_some h1
  obtain ⟨rfl, N, hL, hin⟩ := zix_some h2
  subst h3
  exact va_iald hC.1 hC.2.1 hC.2.2.2.2.2.2.1 hR.2 a 0 (zWs_get hL) rfl hin hd (kk _ hf2 p e s m args below meth c H locs A hC hR hS hl hk)
theorem zj_zaload {r : Option Nat} {i : Int32} {f : Int32 → Option τ} (hd : decode y.2.1 pc = .ok (.baload, 1)) (kk : ∀ v, zJ g y d mc ms w o k n (pc + 1) ls (.int v :: st) μ (f v)) : zJ g y d mc ms w o k n pc ls (.int i :: zr g r :: st) μ ((zaI μ .boolean r i).bind f) := by
  intro hf p e s m args below meth c H locs A hC hR hS hl hk
  obtain ⟨v, h1, hf2⟩ := zbind_some hf
  obtain ⟨a, h2, h3⟩ := zmap_some h1
  obtain ⟨rfl, N, hL, hin⟩ := zix_some h2
  subst h3
  exact va_zald hC.1 hC.2.1 hC.2.2.2.2.2.2.1 hR.2 a 1 (zWs_get hL) rfl hin hd (kk _ hf2 p e s m args below meth c H locs A hC hR hS hl hk)
theorem zj_caload {r : Option Nat} {i : Int32} {f : Int32 → Option τ} (hd : decode y.2.1 pc = .ok (.caload, 1)) (kk : ∀ v, zJ g y d mc ms w o k n (pc + 1) ls (.int v :: st) μ (f v)) : zJ g y d mc ms w o k n pc ls (.int i :: zr g r :: st) μ ((zaI μ .char r i).bind f) := by
  intro hf p e s m args below meth c H locs A hC hR hS hl hk
  obtain ⟨v, h1, hf2⟩ := zbind_some hf
  obtain ⟨a, h2, h3⟩ := zmap_some h1
  obtain ⟨rfl, N, hL, hin⟩ := zix_some h2
  subst h3
  exact va_cald hC.1 hC.2.1 hC.2.2.2.2.2.2.1 hR.2 a 2 (zWs_get hL) rfl hin hd (kk _ hf2 p e s m args below meth c H locs A hC hR hS hl hk)
theorem zj_laload {r : Option Nat} {i : Int32} {f : Int64 → Option τ} (hd : decode y.2.1 pc = .ok (.laload, 1)) (kk : ∀ v, zJ g y d mc ms w o k n (pc + 1) ls (.long v :: st) μ (f v)) : zJ g y d mc ms w o k n pc ls (.int i :: zr g r :: st) μ ((zaJ μ r i).bind f) := by
  intro hf p e s m args below meth c H locs A hC hR hS hl hk
  obtain ⟨v, h1, hf2⟩ := zbind_some hf
  obtain ⟨a, h2, h3⟩ := zmap_some h1
  obtain ⟨rfl, N, hL, hin⟩ := zix_some h2
  subst h3
  exact va_lald hC.1 hC.2.1 hC.2.2.2.2.2.2.1 hR.2 a 3 (zWs_get hL) rfl hin hd (kk _ hf2 p e s m args below meth c H locs A hC hR hS hl hk)
theorem zj_aaload {C : String} {r : Option Nat} {i : Int32} {f : Option Nat → Option τ} (t0 : Nat) (ht : (ztys g)[t0]? = some (g.2.2.1 (.object C), .object C)) (hd : decode y.2.1 pc = .ok (.aaload, 1)) (kk : ∀ v, zJ g y d mc ms w o k n (pc + 1) ls (zr g v :: st) μ (f v)) : zJ g y d mc ms w o k n pc ls (.int i :: zr g r :: st) μ ((zaR μ C r i).bind f) := by
  intro hf p e s m args below meth c H locs A hC hR hS hl hk
  obtain ⟨v, h1, hf2⟩ := zbind_some hf
  obtain ⟨a, h2, h3⟩ := zmap_some h1
  obtain ⟨rfl, N, hL, hin⟩ := zix_some h2
  subst h3
  exact va_aldq hC.1 hC.2.1 hC.2.2.2.2.2.2.1 hR.2 a t0 (zWs_get hL) ht hin hd (kk _ hf2 p e s m args below meth c H locs A hC hR hS hl hk)
theorem zj_alen {ty : FieldType} {r : Option Nat} {f : Int32 → Option τ} (t0 : Nat) (ht : (ztys g)[t0]? = some (g.2.2.1 ty, ty)) (hd : decode y.2.1 pc = .ok (.arraylength, 1)) (kk : ∀ v, zJ g y d mc ms w o k n (pc + 1) ls (.int v :: st) μ (f v)) : zJ g y d mc ms w o k n pc ls (zr g r :: st) μ ((zln μ ty r).bind f) := by
  intro hf p e s m args below meth c H locs A hC hR hS hl hk
  obtain ⟨v, h1, hf2⟩ := zbind_some hf
  cases r with
  | none => cases h1
  | some a =>
    simp only [zln] at h1
    cases hb : μ.1[a]? with
    | none => rw [hb] at h1; cases h1
    | some K =>
      rw [hb] at h1
      cases K with
      | inr ci => cases h1
      | inl q =>
        obtain ⟨t, N⟩ := q
        dsimp only at h1
        by_cases hc : t = ty
        · rw [if_pos hc] at h1
          subst hc
          exact va_alen (D := g.2.1) (cl := vwCl) hC.1 hC.2.1 hC.2.2.2.2.2.2.1 hR.2 a t0 (zWs_get hb) ht (Option.some.inj h1) hd (kk v hf2 p e s m args below meth c H locs A hC hR hS hl hk)
        · rw [if_neg hc] at h1; cases h1
theorem zj_old {t : Nat} {i : Int32} {f : Int32 → Option τ} (hd : decode y.2.1 pc = .ok (.iaload, 1)) (kk : ∀ v, zJ g y d mc ms w o k n (pc + 1) ls (.int v :: st) μ (f v)) : zJ g y d mc ms w o k n pc ls (.int i :: .ref t :: st) μ ((zol g t i).bind f) := by
  intro hf p e s m args below meth c H locs A hC hR hS hl hk
  obtain ⟨v, h1, hf2⟩ := zbind_some hf
  unfold zol at h1
  cases hq : g.2.2.2.2.1.find? (fun q => q.1 == t) with
  | none => rw [hq] at h1; cases h1
  | some q =>
    rw [hq] at h1
    dsimp only at h1
    by_cases hc : ¬ i < 0 ∧ i.toNatClampNeg < q.2.1
    · rw [if_pos hc] at h1
      have hm := List.mem_of_find?_eq_some hq
      have he : q.1 = t := by simpa using List.find?_some hq
      have hT := hC.2.2.2.2.2.2.2.2.2.2.1 q hm
      rw [he] at hT
      exact va_ti hC.1 hC.2.1 hT hS (fun hh => hh.elim hc.1 (fun h4 => by omega)) (v := .int v) (by rw [← Option.some.inj h1]) hd (kk v hf2 p e s m args below meth c H locs A hC hR hS hl hk)
    · rw [if_neg hc] at h1; cases h1
theorem zj_under {idx : Nat} (hc : y.1.cls = "PostsFilled$Person" ∧ Cond.fieldLink y.1.cls idx "PostsFilled$Person" "UNDER" "[I" ∈ gtbl) (hd : decode y.2.1 pc = .ok (.getstatic idx, 3)) (kk : zJ g y d mc ms w o k n (pc + 3) ls (.ref g.2.2.2.2.2.1 :: st) μ f) : zJ g y d mc ms w o k n pc ls st μ f := by
  intro hf p e s m args below meth c H locs A hC hR hS hl hk
  exact va_gets hC.1 hC.2.1 hC.2.2.2.2.2.2.2.2.2.2.2.1.1 hS hC.2.2.2.2.1 (hC.2.2.2.2.2.1 _ hc.2) (fun _ h => h) hd (kk hf p e s m args below meth c H locs A hC hR hS hl hk)
def zun (i : Int32) : Option Int32 := if ¬ i < 0 ∧ i.toNatClampNeg < 6 then some (zUnd i.toNatClampNeg) else none
theorem zj_uald {i : Int32} {f : Int32 → Option τ} (hd : decode y.2.1 pc = .ok (.iaload, 1)) (kk : ∀ v, zJ g y d mc ms w o k n (pc + 1) ls (.int v :: st) μ (f v)) : zJ g y d mc ms w o k n pc ls (.int i :: .ref g.2.2.2.2.2.1 :: st) μ ((zun i).bind f) := by
  intro hf p e s m args below meth c H locs A hC hR hS hl hk
  obtain ⟨v, h1, hf2⟩ := zbind_some hf
  unfold zun at h1
  by_cases hc : ¬ i < 0 ∧ i.toNatClampNeg < 6
  · rw [if_pos hc] at h1
    exact va_ti hC.1 hC.2.1 hC.2.2.2.2.2.2.2.2.2.2.2.1.2 hS (fun hh => hh.elim hc.1 (fun h4 => by omega)) (v := .int v) (by rw [← Option.some.inj h1]) hd (kk v hf2 p e s m args below meth c H locs A hC hR hS hl hk)
  · rw [if_neg hc] at h1; cases h1
theorem zj_iastore {r : Option Nat} {i v : Int32} {f : zS → Option τ} (hd : decode y.2.1 pc = .ok (.iastore, 1)) (kk : ∀ μ', zJ g y d mc ms w o k n (pc + 1) ls st μ' (f μ')) : zJ g y d mc ms w o k n pc ls (.int v :: .int i :: zr g r :: st) μ ((zsI μ r i v).bind f) := by
  intro hf p e s m args below meth c H locs A hC hR hS hl hk
  obtain ⟨μ', h1, hf2⟩ := zbind_some hf
  obtain ⟨a, h2, h3⟩ := zmap_some h1
  obtain ⟨rfl, N, hL, hin⟩ := zix_some h2
  subst h3
  refine va_iast hC.1 hC.2.1 hC.2.2.2.2.2.2.1 hR.2 (zD μ) hS a 0 (zWs_get hL) rfl hin hd (fun H1 locs1 hP1 _ hS1 => ?_)
  rw [zWs_uI hL (zE_uI (fun _ => rfl))] at hP1
  exact zsz (μ := zuI μ a i.toNatClampNeg v) hk hC.2.2.2.2.2.2.2.2.2.1 hP1 hS1 (fun hR1 => kk _ hf2 p e s m args below meth c H1 locs1 A hC hR1 hS1 hl hk)
theorem zj_zastore {r : Option Nat} {i v : Int32} {f : zS → Option τ} (hd : decode y.2.1 pc = .ok (.bastore, 1)) (kk : ∀ μ', zJ g y d mc ms w o k n (pc + 1) ls st μ' (f μ')) : zJ g y d mc ms w o k n pc ls (.int v :: .int i :: zr g r :: st) μ ((zsZ μ r i v).bind f) := by
  intro hf p e s m args below meth c H locs A hC hR hS hl hk
  obtain ⟨μ', h1, hf2⟩ := zbind_some hf
  unfold zsZ at h1
  by_cases hv : v = 0 ∨ v = 1
  · rw [if_pos hv] at h1
    obtain ⟨a, h2, h3⟩ := zmap_some h1
    obtain ⟨rfl, N, hL, hin⟩ := zix_some h2
    subst h3
    refine va_zast hC.1 hC.2.1 hC.2.2.2.2.2.2.1 hR.2 (zD μ) hS a 1 (zWs_get hL) rfl hin hd (fun H1 locs1 hP1 _ hS1 => ?_)
    have hnv : vp_nar .boolean v = v := by rcases hv with h | h <;> (have h : v = _ := h) <;> rw [h] <;> decide
    rw [hnv, zWs_uI hL (zE_uI (fun _ => rfl))] at hP1
    exact zsz (μ := zuI μ a i.toNatClampNeg v) hk hC.2.2.2.2.2.2.2.2.2.1 hP1 hS1 (fun hR1 => kk _ hf2 p e s m args below meth c H1 locs1 A hC hR1 hS1 hl hk)
  · rw [if_neg hv] at h1; cases h1
theorem zj_castore {r : Option Nat} {i v : Int32} {f : zS → Option τ} (hd : decode y.2.1 pc = .ok (.castore, 1)) (kk : ∀ μ', zJ g y d mc ms w o k n (pc + 1) ls st μ' (f μ')) : zJ g y d mc ms w o k n pc ls (.int v :: .int i :: zr g r :: st) μ ((zsC μ r i v).bind f) := by
  intro hf p e s m args below meth c H locs A hC hR hS hl hk
  obtain ⟨μ', h1, hf2⟩ := zbind_some hf
  unfold zsC at h1
  by_cases hv : vp_nar .char v = v
  · rw [if_pos hv] at h1
    obtain ⟨a, h2, h3⟩ := zmap_some h1
    obtain ⟨rfl, N, hL, hin⟩ := zix_some h2
    subst h3
    refine va_cast hC.1 hC.2.1 hC.2.2.2.2.2.2.1 hR.2 (zD μ) hS a 2 (zWs_get hL) rfl hin hd (fun H1 locs1 hP1 _ hS1 => ?_)
    rw [hv, zWs_uI hL (zE_uI (fun _ => rfl))] at hP1
    exact zsz (μ := zuI μ a i.toNatClampNeg v) hk hC.2.2.2.2.2.2.2.2.2.1 hP1 hS1 (fun hR1 => kk _ hf2 p e s m args below meth c H1 locs1 A hC hR1 hS1 hl hk)
  · rw [if_neg hv] at h1; cases h1
theorem zj_lastore {r : Option Nat} {i : Int32} {v : Int64} {f : zS → Option τ} (hd : decode y.2.1 pc = .ok (.lastore, 1)) (kk : ∀ μ', zJ g y d mc ms w o k n (pc + 1) ls st μ' (f μ')) : zJ g y d mc ms w o k n pc ls (.long v :: .int i :: zr g r :: st) μ ((zsJ μ r i v).bind f) := by
  intro hf p e s m args below meth c H locs A hC hR hS hl hk
  obtain ⟨μ', h1, hf2⟩ := zbind_some hf
  obtain ⟨a, h2, h3⟩ := zmap_some h1
  obtain ⟨rfl, N, hL, hin⟩ := zix_some h2
  subst h3
  refine va_last hC.1 hC.2.1 hC.2.2.2.2.2.2.1 hR.2 (zD μ) hS a 3 (zWs_get hL) rfl hin hd (fun H1 locs1 hP1 _ hS1 => ?_)
  rw [zWs_uJ (q := i.toNatClampNeg) (v := v) hL (e := .inl (g.2.2.1 .long, N, .inr (.inl (vp_updL (μ.2.2.1 a) i.toNatClampNeg v)))) (by
    simp only [zE, zar]
    refine congrArg (fun z => Sum.inl (g.2.2.1 .long, N, Sum.inr (Sum.inl z))) ?_
    funext j
    by_cases h : j = i.toNatClampNeg
    · simp [zuJ, vp_updL, h]
    · simp [zuJ, vp_updL, h])] at hP1
  exact zsz (μ := zuJ μ a i.toNatClampNeg v) hk hC.2.2.2.2.2.2.2.2.2.1 hP1 hS1 (fun hR1 => kk _ hf2 p e s m args below meth c H1 locs1 A hC hR1 hS1 hl hk)
theorem zj_aastore {C : String} {ci : Nat} {T : u_T} {N0 : Nat} {r v : Option Nat} {i : Int32} {f : zS → Option τ} (t0 : Nat) (ht : (ztys g)[t0]? = some (g.2.2.1 (.object C), .object C)) (hc : vwCl[ci]? = some (C, T, N0)) (hd : decode y.2.1 pc = .ok (.aastore, 1)) (kk : ∀ μ', zJ g y d mc ms w o k n (pc + 1) ls st μ' (f μ')) : zJ g y d mc ms w o k n pc ls (zr g v :: .int i :: zr g r :: st) μ ((zsR μ C ci r i v).bind f) := by
  intro hf p e s m args below meth c H locs A hC hR hS hl hk
  obtain ⟨μ', h1, hf2⟩ := zbind_some hf
  obtain ⟨b, h4, h1⟩ := zbind_some h1
  obtain ⟨rfl, hb⟩ := zob_some h4
  obtain ⟨a, h2, h3⟩ := zmap_some h1
  obtain ⟨rfl, N, hL, hin⟩ := zix_some h2
  subst h3
  refine va_astq (r := (C, T, N0)) hC.1 hC.2.1 hC.2.2.2.2.2.2.1 hR.2 (zD μ) hS a t0 b ci (zWs_get hL) ht (zWs_get hb) hc hin hd (fun H1 locs1 hP1 _ hS1 => ?_)
  rw [zWs_uR (v := some b) (q := i.toNatClampNeg) hL (by
    simp only [zE, zar]
    refine congrArg (fun z => Sum.inl (g.2.2.1 (.object C), N, Sum.inr (Sum.inr (Sum.inr (Sum.inr z))))) ?_
    funext j
    by_cases h : j = i.toNatClampNeg
    · simp [zuR, va_up, h]
    · simp [zuR, va_up, h])] at hP1
  exact zsz (μ := zuR μ a i.toNatClampNeg (some b)) hk hC.2.2.2.2.2.2.2.2.2.1 hP1 hS1 (fun hR1 => kk _ hf2 p e s m args below meth c H1 locs1 A hC hR1 hS1 hl hk)
end ZR
-- ===== calls =====
theorem zOld.calling {g : zG} {U : State} {fr : JFrame} {mk : MethodId} {a : Array Value} (h : zOld g U) : zOld g (U.calling fr mk a) := by
  obtain ⟨h1, h2, h3, h4, h5, h6, h7, h8, h9, h10⟩ := h
  have hal : U.vm.Alike (U.calling fr mk a).vm := Vm.Alike.refl U.vm
  exact ⟨fun q hq => (h1 q hq).moved hal, ⟨h2.1.moved hal, h2.2.moved hal⟩, h3.moved hal, h4.moved hal, h5.same rfl, h6.same rfl, fun a i x h hw => (h7 a i x h hw).same rfl rfl, h8.moved hal, h9.moved hal, h10.moved hal⟩
theorem zU.blind {g : zG} {μ : zS} {av : List Value} : FrameBlind (va_Pc av (zU g μ)) := by
  rintro a U fr mk ⟨h1, h2, h3, h4, h5⟩
  exact ⟨h1, h2, h3, va_K.moved (u := U) (U := U.calling fr mk a) (Vm.Alike.refl U.vm) h4, h5.calling⟩
theorem zGood {y : zY} (h : Cond.code y.1 y.2.1 y.2.2.1 y.2.2.2 ∈ gtbl) : GoodIn gtbl (zws y) := by
  intro w hw
  have hm : w ∈ gtbl := by
    rcases List.mem_cons.mp hw with rfl | h2
    · exact h
    · exact h2
  exact ⟨hm, good_of_word (List.mem_filter.mp hm).2⟩
theorem zU.at {g : zG} {μ : zS} {s U : State} {H : Heap} {locs : List Loc} (hB : zB g ≤ s.heap.size) (hR : zR g μ H) (hS : va_S (zA g) s.heap H locs) (hK : va_K g.2.1 vwCl (ztys g) s) (hO : zOld g s) (hU : U.heap = H) (hW : s.WarmedH U.vm) : zU g μ U := by
  subst hU
  exact ⟨Nat.le_trans hB hS.1, hR, va_K.moved hW.alike hK, hO.moved hW hS⟩
section ZR
variable {τ : Type} {g : zG} {y : zY} {d mc ms : Nat} {w : τ → Option Value × zS} {o : τ} {k n pc : Nat} {ls : List (Option Value)} {st stk : List Value} {μ : zS} {f : Option τ}
theorem zcall_end {p : Program} {e : Env} {s : State} {m : MethodId} {args : Array Value} {below : List Frame} {meth : Method} {c : Code} {H : Heap} {locs : List Loc} {A : Array Slot} {mc2 ms2 : Nat} {ov : Option Value} {μ' : zS} {av : Array Value} {R : Room} {Q : State → Prop} {st' : List Value}
    (hr : va_Run p g.1 e R s m args below meth c H locs k n mc2 ms2 (F0 m pc A stk) st (zQ g mc2 ov μ' av) (zA g)) (hR : zR g μ H) (hS : va_S (zA g) s.heap H locs) (hk : s.heap.size + k ≤ zB g + μ.1.length) (hst : ov.toList ++ st = st')
    (kk : ∀ (H1 : Heap) (locs1 : List Loc), zR g μ' H1 → va_S (zA g) s.heap H1 locs1 → s.heap.size + (k + mc2) ≤ zB g + μ'.1.length → W p g.1 e R s m args below meth c H1 locs1 (k + mc2) (n + ms2) Q (F0 m (pc + 3) A st')) : W p g.1 e R s m args below meth c H locs k n Q (F0 m pc A stk) := by
  intro T hT X
  obtain ⟨v, st0, t, T', L, e0, X', hL, eh, ev, ⟨hq1, hq2, hq3, hq4⟩, goes⟩ := hr T hT X
  cases hq1
  subst hst
  have hS1 : va_S (zA g) s.heap T'.heap (locs ++ L) := by
    refine ⟨Nat.le_trans hS.1 (by rw [eh, ← e0]; exact hq3.1), fun q h1 h2 => ?_, fun q hq => ?_⟩
    · rw [eh, hq3.2 q (by rw [e0]; exact Nat.lt_of_lt_of_le h1 hS.1) h2, e0]
      exact hS.2.1 q h1 h2
    · rcases List.mem_append.mp hq with h | h
      · exact hS.2.2 q h
      · exact hL q h
  have hsz : s.heap.size + (k + mc2) ≤ zB g + μ'.1.length := by
    have h1 := hq2.1
    have h2 := hR.1
    rw [e0] at hq4
    omega
  obtain ⟨t2, a1, b1⟩ := kk T'.heap (locs ++ L) (by rw [eh]; exact hq2) hS1 hsz T' rfl X'
  exact ⟨t2, goes t2 a1, b1⟩
theorem zrm_ok {d2 d mL mc2 ms2 mc ms : Nat} (hL : mL ≤ 50) (hd : d2 + 1 ≤ d) : (zRm d2 mc2 ms2).frames + 1 ≤ (zRm d mc ms).frames ∧ 8 + (mL + 11) + (zRm d2 mc2 ms2).locals ≤ (zRm d mc ms).locals := by
  refine ⟨hd, ?_⟩
  show 8 + (mL + 11) + 80 * d2 ≤ 80 * d
  omega
/-- a call of a method of an object -/
theorem zj_callV {y2 : zY} {n2 d2 idx ci : Nat} {τ2 : Type} {w2 : τ2 → Option Value × zS} {F : Nat → Option τ2} {f : τ2 → Option τ} {T : u_T} {N : Nat} {r : Option Nat} (As : List Value) (hy : zVir y2 n2) (hl : Cond.methodLink y.1.cls idx y2.1 ∈ gtbl) (hc : vwCl[ci]? = some (y2.1.cls, T, N)) (hM : ∀ a o2, μ.1[a]? = some (.inr ci) → F a = some o2 → zMt g y2 d2 0 0 (zr g (some a) :: As) μ (w2 o2).1 (w2 o2).2) (hd2 : d2 + 1 ≤ d) (hb : k ≤ mc ∧ n ≤ ms) (hn : As.length = n2) (hs : stk = As.reverse ++ zr g r :: st) (h8 : (st.map fun v => v.category).sum ≤ 8) (hd : decode y.2.1 pc = .ok (.invokevirtual idx, 3)) (kk : ∀ q, zJ g y d mc ms w o k n (pc + 3) ls ((w2 q).1.toList ++ st) (w2 q).2 (f q)) : zJ g y d mc ms w o k n pc ls stk μ ((zob μ ci r).bind (fun a => (F a).bind f)) := by
  intro hf p e s m args below meth c H locs A hC hR hS hlA hk
  obtain ⟨a, h1, hf1⟩ := zbind_some hf
  obtain ⟨rfl, hL⟩ := zob_some h1
  obtain ⟨o2, h2, hf2⟩ := zbind_some hf1
  obtain ⟨⟨m1, m2, m3, m4, m5, m6⟩, v1, v2⟩ := hy
  have hts := hC.2.2.2.2.2.1
  have cb : CallB (zRm d mc ms) s args y.1.cls idx y2.1 y2.2.1 y2.2.2.1 y2.2.2.2 (zws y2) (zRm d2 0 0) 0 0 n2 := callB_of n2 hts (zGood m1) rfl rfl rfl (hts _ m2) (hts _ hl) ⟨m3, m4, m5⟩ (zrm_ok m6 hd2)
  have hr := va_runV (p := p) (l := g.1) (e := e) (R := zRm d mc ms) (below := below) (meth := meth) (H := H) (locs := locs) (cells := k) (slots := n) (C := y2.1.cls) (g := F0 m pc A stk) (rest := st) (b := zB g + a) (As := As) ⟨hC.1, hC.2.1, hC.2.2.2.1, hC.2.2.2.2.1, hts⟩ (hM a o2 hL h2) ⟨cb, hts _ v1, hts _ v2⟩ ⟨zU.blind, va_recv hC.2.2.2.2.2.2.1 hR.2 hc (zWs_get hL), fun U hU hW => ⟨rfl, zU.at hC.2.2.2.2.2.2.2.2.2.1 hR hS hC.2.2.2.2.2.2.1 hC.2.2.2.2.2.2.2.2.2.2 hU hW⟩⟩ rfl hn hlA.1 hs (lv_room (m := m) (pc := pc) (ls := A) (rest := stk) h8) hd hb
  exact zcall_end hr hR hS hk rfl (fun H1 locs1 hR1 hS1 hk1 => kk o2 hf2 p e s m args below meth c H1 locs1 A hC hR1 hS1 hlA hk1)
/-- a call of a static method -/
theorem zj_callS {y2 : zY} {n2 d2 idx : Nat} {τ2 : Type} {w2 : τ2 → Option Value × zS} {F : Option τ2} {f : τ2 → Option τ} (As : List Value) (hy : zSta y2 n2) (hl : Cond.methodLink y.1.cls idx y2.1 ∈ gtbl) (hM : ∀ o2, F = some o2 → zMt g y2 d2 0 0 As μ (w2 o2).1 (w2 o2).2) (hd2 : d2 + 1 ≤ d) (hb : k ≤ mc ∧ n ≤ ms) (hn : As.length = n2) (hs : stk = As.reverse ++ st) (h8 : (st.map fun v => v.category).sum ≤ 8) (hd : decode y.2.1 pc = .ok (.invokestatic idx, 3)) (kk : ∀ q, zJ g y d mc ms w o k n (pc + 3) ls ((w2 q).1.toList ++ st) (w2 q).2 (f q)) : zJ g y d mc ms w o k n pc ls stk μ (F.bind f) := by
  intro hf p e s m args below meth c H locs A hC hR hS hlA hk
  obtain ⟨o2, h2, hf2⟩ := zbind_some hf
  obtain ⟨⟨m1, m2, m3, m4, m5, m6⟩, v1⟩ := hy
  have hts := hC.2.2.2.2.2.1
  have cb : CallB (zRm d mc ms) s args y.1.cls idx y2.1 y2.2.1 y2.2.2.1 y2.2.2.2 (zws y2) (zRm d2 0 0) 0 0 n2 := callB_of n2 hts (zGood m1) rfl rfl rfl (hts _ m2) (hts _ hl) ⟨m3, m4, m5⟩ (zrm_ok m6 hd2)
  have hr := va_runS (p := p) (l := g.1) (e := e) (R := zRm d mc ms) (below := below) (meth := meth) (H := H) (locs := locs) (cells := k) (slots := n) (g := F0 m pc A stk) (rest := st) (As := As) ⟨hC.1, hC.2.1, hC.2.2.2.1, hC.2.2.2.2.1, hts⟩ (hM o2 h2) ⟨cb, hts _ v1⟩ ⟨zU.blind, fun U hU hW => ⟨rfl, zU.at hC.2.2.2.2.2.2.2.2.2.1 hR hS hC.2.2.2.2.2.2.1 hC.2.2.2.2.2.2.2.2.2.2 hU hW⟩⟩ rfl hn hlA.1 hs (lv_room (m := m) (pc := pc) (ls := A) (rest := stk) h8) hd hb
  exact zcall_end hr hR hS hk rfl (fun H1 locs1 hR1 hS1 hk1 => kk o2 hf2 p e s m args below meth c H1 locs1 A hC hR1 hS1 hlA hk1)
theorem zj_cVI {y2 : zY} {n2 d2 idx ci : Nat} {T : u_T} {N : Nat} {r : Option Nat} {F : Nat → Option (Int32 × zS)} {f : Int32 → zS → Option τ} (As : List Value) (hy : zVir y2 n2) (hl : Cond.methodLink y.1.cls idx y2.1 ∈ gtbl) (hc : vwCl[ci]? = some (y2.1.cls, T, N)) (hM : ∀ a o2, F a = some o2 → zMt g y2 d2 0 0 (zr g (some a) :: As) μ (some (.int o2.1)) o2.2) (hd2 : d2 + 1 ≤ d) (hb : k ≤ mc ∧ n ≤ ms) (hn : As.length = n2) (hs : stk = As.reverse ++ zr g r :: st) (h8 : (st.map fun v => v.category).sum ≤ 8) (hd : decode y.2.1 pc = .ok (.invokevirtual idx, 3)) (kk : ∀ v μ', zJ g y d mc ms w o k n (pc + 3) ls (.int v :: st) μ' (f v μ')) : zJ g y d mc ms w o k n pc ls stk μ ((zob μ ci r).bind (fun a => (F a).bind (fun q => f q.1 q.2))) := zj_callV (w2 := zwI) As hy hl hc (fun a o2 _ h => hM a o2 h) hd2 hb hn hs h8 hd (fun q => kk q.1 q.2)
theorem zj_cSI {y2 : zY} {n2 d2 idx : Nat} {F : Option (Int32 × zS)} {f : Int32 → zS → Option τ} (As : List Value) (hy : zSta y2 n2) (hl : Cond.methodLink y.1.cls idx y2.1 ∈ gtbl) (hM : ∀ o2, F = some o2 → zMt g y2 d2 0 0 As μ (some (.int o2.1)) o2.2) (hd2 : d2 + 1 ≤ d) (hb : k ≤ mc ∧ n ≤ ms) (hn : As.length = n2) (hs : stk = As.reverse ++ st) (h8 : (st.map fun v => v.category).sum ≤ 8) (hd : decode y.2.1 pc = .ok (.invokestatic idx, 3)) (kk : ∀ v μ', zJ g y d mc ms w o k n (pc + 3) ls (.int v :: st) μ' (f v μ')) : zJ g y d mc ms w o k n pc ls stk μ (F.bind (fun q => f q.1 q.2)) := zj_callS (w2 := zwI) As hy hl (fun o2 h => hM o2 h) hd2 hb hn hs h8 hd (fun q => kk q.1 q.2)
theorem zj_cVJ {y2 : zY} {n2 d2 idx ci : Nat} {T : u_T} {N : Nat} {r : Option Nat} {F : Nat → Option (Int64 × zS)} {f : Int64 → zS → Option τ} (As : List Value) (hy : zVir y2 n2) (hl : Cond.methodLink y.1.cls idx y2.1 ∈ gtbl) (hc : vwCl[ci]? = some (y2.1.cls, T, N)) (hM : ∀ a o2, F a = some o2 → zMt g y2 d2 0 0 (zr g (some a) :: As) μ (some (.long o2.1)) o2.2) (hd2 : d2 + 1 ≤ d) (hb : k ≤ mc ∧ n ≤ ms) (hn : As.length = n2) (hs : stk = As.reverse ++ zr g r :: st) (h8 : (st.map fun v => v.category).sum ≤ 8) (hd : decode y.2.1 pc = .ok (.invokevirtual idx, 3)) (kk : ∀ v μ', zJ g y d mc ms w o k n (pc + 3) ls (.long v :: st) μ' (f v μ')) : zJ g y d mc ms w o k n pc ls stk μ ((zob μ ci r).bind (fun a => (F a).bind (fun q => f q.1 q.2))) := zj_callV (w2 := zwJ) As hy hl hc (fun a o2 _ h => hM a o2 h) hd2 hb hn hs h8 hd (fun q => kk q.1 q.2)
theorem zj_cSJ {y2 : zY} {n2 d2 idx : Nat} {F : Option (Int64 × zS)} {f : Int64 → zS → Option τ} (As : List Value) (hy : zSta y2 n2) (hl : Cond.methodLink y.1.cls idx y2.1 ∈ gtbl) (hM : ∀ o2, F = some o2 → zMt g y2 d2 0 0 As μ (some (.long o2.1)) o2.2) (hd2 : d2 + 1 ≤ d) (hb : k ≤ mc ∧ n ≤ ms) (hn : As.length = n2) (hs : stk = As.reverse ++ st) (h8 : (st.map fun v => v.category).sum ≤ 8) (hd : decode y.2.1 pc = .ok (.invokestatic idx, 3)) (kk : ∀ v μ', zJ g y d mc ms w o k n (pc + 3) ls (.long v :: st) μ' (f v μ')) : zJ g y d mc ms w o k n pc ls stk μ (F.bind (fun q => f q.1 q.2)) := zj_callS (w2 := zwJ) As hy hl (fun o2 h => hM o2 h) hd2 hb hn hs h8 hd (fun q => kk q.1 q.2)
theorem zj_cVU {y2 : zY} {n2 d2 idx ci : Nat} {T : u_T} {N : Nat} {r : Option Nat} {F : Nat → Option (zS)} {f : zS → Option τ} (As : List Value) (hy : zVir y2 n2) (hl : Cond.methodLink y.1.cls idx y2.1 ∈ gtbl) (hc : vwCl[ci]? = some (y2.1.cls, T, N)) (hM : ∀ a o2, F a = some o2 → zMt g y2 d2 0 0 (zr g (some a) :: As) μ none o2) (hd2 : d2 + 1 ≤ d) (hb : k ≤ mc ∧ n ≤ ms) (hn : As.length = n2) (hs : stk = As.reverse ++ zr g r :: st) (h8 : (st.map fun v => v.category).sum ≤ 8) (hd : decode y.2.1 pc = .ok (.invokevirtual idx, 3)) (kk : ∀ μ', zJ g y d mc ms w o k n (pc + 3) ls st μ' (f μ')) : zJ g y d mc ms w o k n pc ls stk μ ((zob μ ci r).bind (fun a => (F a).bind f)) := zj_callV (w2 := zwV) As hy hl hc (fun a o2 _ h => hM a o2 h) hd2 hb hn hs h8 hd kk
theorem zj_cSU {y2 : zY} {n2 d2 idx : Nat} {F : Option (zS)} {f : zS → Option τ} (As : List Value) (hy : zSta y2 n2) (hl : Cond.methodLink y.1.cls idx y2.1 ∈ gtbl) (hM : ∀ o2, F = some o2 → zMt g y2 d2 0 0 As μ none o2) (hd2 : d2 + 1 ≤ d) (hb : k ≤ mc ∧ n ≤ ms) (hn : As.length = n2) (hs : stk = As.reverse ++ st) (h8 : (st.map fun v => v.category).sum ≤ 8) (hd : decode y.2.1 pc = .ok (.invokestatic idx, 3)) (kk : ∀ μ', zJ g y d mc ms w o k n (pc + 3) ls st μ' (f μ')) : zJ g y d mc ms w o k n pc ls stk μ (F.bind f) := zj_callS (w2 := zwV) As hy hl (fun o2 h => hM o2 h) hd2 hb hn hs h8 hd kk
theorem zj_cVIp {y2 : zY} {n2 d2 idx ci : Nat} {T : u_T} {N : Nat} {r : Option Nat} {F : Nat → Option (Int32)} {f : Int32 → Option τ} (As : List Value) (hy : zVir y2 n2) (hl : Cond.methodLink y.1.cls idx y2.1 ∈ gtbl) (hc : vwCl[ci]? = some (y2.1.cls, T, N)) (hM : ∀ a o2, F a = some o2 → zMt g y2 d2 0 0 (zr g (some a) :: As) μ (some (.int o2)) μ) (hd2 : d2 + 1 ≤ d) (hb : k ≤ mc ∧ n ≤ ms) (hn : As.length = n2) (hs : stk = As.reverse ++ zr g r :: st) (h8 : (st.map fun v => v.category).sum ≤ 8) (hd : decode y.2.1 pc = .ok (.invokevirtual idx, 3)) (kk : ∀ v, zJ g y d mc ms w o k n (pc + 3) ls (.int v :: st) μ (f v)) : zJ g y d mc ms w o k n pc ls stk μ ((zob μ ci r).bind (fun a => (F a).bind f)) := zj_callV (w2 := (zwIp μ)) As hy hl hc (fun a o2 _ h => hM a o2 h) hd2 hb hn hs h8 hd kk
theorem zj_cSIp {y2 : zY} {n2 d2 idx : Nat} {F : Option (Int32)} {f : Int32 → Option τ} (As : List Value) (hy : zSta y2 n2) (hl : Cond.methodLink y.1.cls idx y2.1 ∈ gtbl) (hM : ∀ o2, F = some o2 → zMt g y2 d2 0 0 As μ (some (.int o2)) μ) (hd2 : d2 + 1 ≤ d) (hb : k ≤ mc ∧ n ≤ ms) (hn : As.length = n2) (hs : stk = As.reverse ++ st) (h8 : (st.map fun v => v.category).sum ≤ 8) (hd : decode y.2.1 pc = .ok (.invokestatic idx, 3)) (kk : ∀ v, zJ g y d mc ms w o k n (pc + 3) ls (.int v :: st) μ (f v)) : zJ g y d mc ms w o k n pc ls stk μ (F.bind f) := zj_callS (w2 := (zwIp μ)) As hy hl (fun o2 h => hM o2 h) hd2 hb hn hs h8 hd kk
theorem zj_cVJp {y2 : zY} {n2 d2 idx ci : Nat} {T : u_T} {N : Nat} {r : Option Nat} {F : Nat → Option (Int64)} {f : Int64 → Option τ} (As : List Value) (hy : zVir y2 n2) (hl : Cond.methodLink y.1.cls idx y2.1 ∈ gtbl) (hc : vwCl[ci]? = some (y2.1.cls, T, N)) (hM : ∀ a o2, F a = some o2 → zMt g y2 d2 0 0 (zr g (some a) :: As) μ (some (.long o2)) μ) (hd2 : d2 + 1 ≤ d) (hb : k ≤ mc ∧ n ≤ ms) (hn : As.length = n2) (hs : stk = As.reverse ++ zr g r :: st) (h8 : (st.map fun v => v.category).sum ≤ 8) (hd : decode y.2.1 pc = .ok (.invokevirtual idx, 3)) (kk : ∀ v, zJ g y d mc ms w o k n (pc + 3) ls (.long v :: st) μ (f v)) : zJ g y d mc ms w o k n pc ls stk μ ((zob μ ci r).bind (fun a => (F a).bind f)) := zj_callV (w2 := (zwJp μ)) As hy hl hc (fun a o2 _ h => hM a o2 h) hd2 hb hn hs h8 hd kk
theorem zj_cSJp {y2 : zY} {n2 d2 idx : Nat} {F : Option (Int64)} {f : Int64 → Option τ} (As : List Value) (hy : zSta y2 n2) (hl : Cond.methodLink y.1.cls idx y2.1 ∈ gtbl) (hM : ∀ o2, F = some o2 → zMt g y2 d2 0 0 As μ (some (.long o2)) μ) (hd2 : d2 + 1 ≤ d) (hb : k ≤ mc ∧ n ≤ ms) (hn : As.length = n2) (hs : stk = As.reverse ++ st) (h8 : (st.map fun v => v.category).sum ≤ 8) (hd : decode y.2.1 pc = .ok (.invokestatic idx, 3)) (kk : ∀ v, zJ g y d mc ms w o k n (pc + 3) ls (.long v :: st) μ (f v)) : zJ g y d mc ms w o k n pc ls stk μ (F.bind f) := zj_callS (w2 := (zwJp μ)) As hy hl (fun o2 h => hM o2 h) hd2 hb hn hs h8 hd kk
/-- a constructor's call -/
theorem zj_callI {y2 : zY} {n2 d2 mc2 ms2 idx : Nat} {F : Option zS} {f : zS → Option τ} {a : Nat} (As : List Value) (hy : zIni y2 n2) (hret : y2.2.2.2 = none) (hl : Cond.methodLink y.1.cls idx y2.1 ∈ gtbl) (hM : ∀ o2, F = some o2 → zMt g y2 d2 mc2 ms2 (zr g (some a) :: As) μ none o2) (hd2 : d2 + 1 ≤ d) (hb : k + mc2 ≤ mc ∧ n + ms2 ≤ ms) (hn : As.length = n2) (hs : stk = As.reverse ++ zr g (some a) :: st) (h8 : (st.map fun v => v.category).sum ≤ 8) (hd : decode y.2.1 pc = .ok (.invokespecial idx, 3)) (kk : ∀ μ', zJ g y d mc ms w o (k + mc2) (n + ms2) (pc + 3) ls st μ' (f μ')) : zJ g y d mc ms w o k n pc ls stk μ (F.bind f) := by
  intro hf p e s m args below meth c H locs A hC hR hS hlA hk
  obtain ⟨o2, h2, hf2⟩ := zbind_some hf
  obtain ⟨⟨m1, m2, m3, m4, m5, m6⟩, v1, v2⟩ := hy
  have hts := hC.2.2.2.2.2.1
  have cb : CallB (zRm d mc ms) s args y.1.cls idx y2.1 y2.2.1 y2.2.2.1 y2.2.2.2 (zws y2) (zRm d2 mc2 ms2) mc2 ms2 n2 := callB_of n2 hts (zGood m1) rfl rfl rfl (hts _ m2) (hts _ hl) ⟨m3, m4, m5⟩ (zrm_ok m6 hd2)
  rw [hret] at cb
  have hr := va_runI (p := p) (l := g.1) (e := e) (R := zRm d mc ms) (below := below) (meth := meth) (H := H) (locs := locs) (cells := k) (slots := n) (g := F0 m pc A stk) (rest := st) (b := zB g + a) (As := As) ⟨hC.1, hC.2.1, hC.2.2.2.1, hC.2.2.2.2.1, hts⟩ (hM o2 h2) ⟨cb, v2, hts _ v1⟩ ⟨zU.blind, fun U hU hW => ⟨rfl, zU.at hC.2.2.2.2.2.2.2.2.2.1 hR hS hC.2.2.2.2.2.2.1 hC.2.2.2.2.2.2.2.2.2.2 hU hW⟩⟩ rfl hn hlA.1 hs (lv_room (m := m) (pc := pc) (ls := A) (rest := stk) h8) hd hb
  exact zcall_end hr hR hS hk rfl (fun H1 locs1 hR1 hS1 hk1 => kk o2 hf2 p e s m args below meth c H1 locs1 A hC hR1 hS1 hlA hk1)
theorem zj_callIN {y2 : zY} {n2 d2 mc2 ms2 idx : Nat} {host : String} {F : Option zS} {f : zS → Option τ} {a : Nat} (As : List Value) (hy : zIni y2 n2) (hret : y2.2.2.2 = none) (hl : Cond.methodLinkNest y.1.cls idx y2.1 host ∈ lw_tbl) (hM : ∀ o2, F = some o2 → zMt g y2 d2 mc2 ms2 (zr g (some a) :: As) μ none o2) (hd2 : d2 + 1 ≤ d) (hb : k + mc2 ≤ mc ∧ n + ms2 ≤ ms) (hn : As.length = n2) (hs : stk = As.reverse ++ zr g (some a) :: st) (h8 : (st.map fun v => v.category).sum ≤ 8) (hd : decode y.2.1 pc = .ok (.invokespecial idx, 3)) (kk : ∀ μ', zJ g y d mc ms w o (k + mc2) (n + ms2) (pc + 3) ls st μ' (f μ')) : zJ g y d mc ms w o k n pc ls stk μ (F.bind f) := by
  intro hf p e s m args below meth c H locs A hC hR hS hlA hk
  obtain ⟨o2, h2, hf2⟩ := zbind_some hf
  obtain ⟨⟨m1, m2, m3, m4, m5, m6⟩, v1, v2⟩ := hy
  have hts := hC.2.2.2.2.2.1
  have hnw : va_Nw (.methodLinkNest y.1.cls idx y2.1 host) s := hC.2.2.2.2.2.2.2.2.2.2.2.2.2.2.2.2.1 _ _ _ _ hl
  have cb : va_CN (zRm d mc ms) s args y.1.cls idx y2.1 host y2.2.1 y2.2.2.1 y2.2.2.2 (zws y2) (zRm d2 mc2 ms2) mc2 ms2 n2 := va_cnB n2 hts (zGood m1) rfl rfl rfl hnw (hts _ m2) ⟨m3, m4, m5⟩ (zrm_ok m6 hd2)
  rw [hret] at cb
  have hr := va_runIN (p := p) (l := g.1) (e := e) (R := zRm d mc ms) (below := below) (meth := meth) (H := H) (locs := locs) (cells := k) (slots := n) (g := F0 m pc A stk) (rest := st) (b := zB g + a) (As := As) ⟨hC.1, hC.2.1, hC.2.2.2.1, hC.2.2.2.2.1, hts⟩ (hM o2 h2) ⟨cb, v2, hts _ v1⟩ ⟨zU.blind, fun U hU hW => ⟨rfl, zU.at hC.2.2.2.2.2.2.2.2.2.1 hR hS hC.2.2.2.2.2.2.1 hC.2.2.2.2.2.2.2.2.2.2 hU hW⟩⟩ rfl hn hlA.1 hs (lv_room (m := m) (pc := pc) (ls := A) (rest := stk) h8) hd hb
  exact zcall_end hr hR hS hk rfl (fun H1 locs1 hR1 hS1 hk1 => kk o2 hf2 p e s m args below meth c H1 locs1 A hC hR1 hS1 hlA hk1)
end ZR
-- ===== entry =====
def zal : List Value → List (Option Value)
  | [] => []
  | v :: r => if v.category = 2 then some v :: none :: zal r else some v :: zal r
theorem zlv_args : ∀ (vs : List Value) (j i : Nat) (v : Value), (zal vs)[i]? = some (some v) → (j + i, v) ∈ lv_args j vs
  | [], _, _, _, h => by simp [zal] at h
  | x :: r, j, i, v, h => by
    unfold zal at h
    unfold lv_args
    by_cases hc : x.category = 2
    · rw [if_pos hc] at h
      match i, h with
      | 0, h => simp at h; simp [h]
      | 1, h => simp at h
      | i + 2, h =>
        simp at h
        have := zlv_args r (j + 2) i v h
        simp [hc]
        rw [show j + (i + 2) = j + 2 + i by omega]; exact this
    · rw [if_neg hc] at h
      match i, h with
      | 0, h => simp at h; simp [h]
      | i + 1, h =>
        simp at h
        have := zlv_args r (j + 1) i v h
        have h1 : x.category = 1 := (lv_cat x).resolve_right hc
        simp [h1]
        rw [show j + (i + 1) = j + 1 + i by omega]; exact this
/-- a method's contract out of its body -/
theorem zMt_of {g : zG} {y : zY} {d mc ms : Nat} {av : List Value} {μ : zS} {ov : Option Value} {μ1 : zS} {ls : List (Option Value)} (hy : plainName y.1.cls = true) (hlen : (lg_sl av).length ≤ y.2.2.1) (hls : ∀ (i : Nat) (v : Value), ls[i]? = some (some v) → (zal av)[i]? = some (some v)) (h : zW g y d mc ms ov μ1 0 0 0 ls [] μ) : zMt g y d mc ms av μ ov μ1 := by
  refine Met.ofW (cc := y.2.1) (maxL := y.2.2.1) (ret := y.2.2.2) hy rfl ?_
  intro p e s m args below meth c s₁ B hml hv
  obtain ⟨rfl, hB, hR, hK, hO⟩ := hv
  have hts := atoms_spec (ws := zws y) B.pre
  have hown : s.vm.findClass y.1.cls = some m.cls := findClass_of_methodNamed B.named
  have hC : zC g y p s m av.toArray meth c := ⟨B.exec, B.bytes, B.returns, hml, hown, fun w hw => hts w (List.mem_cons_of_mem _ hw), hK, B.notSynchronized, (name_of_methodNamed B.named B.method).1, hB, hO⟩
  have hl := lv_entry av (n := y.2.2.1) hlen
  rw [lg_entry_eq]
  refine h p e s m av.toArray below meth c s.heap [] _ hC hR va_S.rf ⟨hl.1, hl.2.1, fun i v hi => ?_⟩ (by rw [hR.1]; exact Nat.le_refl _)
  have h1 := zlv_args av 0 i v (hls i v hi)
  rw [Nat.zero_add] at h1
  exact hl.2.2 (i, v) h1
end
section
-- ===== making =====
def zNew (μ : zS) (K : zK) : zS := (μ.1 ++ [K], fun b j => if b = μ.1.length then 0 else μ.2.1 b j, fun b j => if b = μ.1.length then 0 else μ.2.2.1 b j, fun b j => if b = μ.1.length then none else μ.2.2.2 b j)
def znw (μ : zS) (K : zK) : Option (Nat × zS) := some (μ.1.length, zNew μ K)
theorem zWs_new (g : zG) (μ : zS) (K : zK) : zWs g (zNew μ K) = zWs g μ ++ [(zB g + μ.1.length, zE g (zNew μ K) μ.1.length K)] := by
  apply List.ext_getElem?
  intro j
  rw [zWs_at]
  have hlen : (zWs g μ).length = μ.1.length := by simp [zWs]
  rcases Nat.lt_trichotomy j μ.1.length with h | h | h
  · rw [List.getElem?_append_left (by rw [hlen]; exact h), zWs_at]
    show ((μ.1 ++ [K])[j]?).map _ = _
    rw [List.getElem?_append_left h]
    cases hK : μ.1[j]? with
    | none => rfl
    | some K' =>
      simp only [Option.map_some]
      rw [zE_congr (μ := μ) (μ' := zNew μ K) (b := j) (by funext i; simp [zNew, Nat.ne_of_lt h]) (by funext i; simp [zNew, Nat.ne_of_lt h]) (by funext i; simp [zNew, Nat.ne_of_lt h])]
  · subst h
    rw [List.getElem?_append_right (by rw [hlen]; exact Nat.le_refl _)]
    show ((μ.1 ++ [K])[μ.1.length]?).map _ = _
    rw [List.getElem?_append_right (Nat.le_refl _)]
    simp [hlen]
  · show ((μ.1 ++ [K])[j]?).map _ = _
    rw [List.getElem?_eq_none (l := μ.1 ++ [K]) (by simp; omega), List.getElem?_eq_none (by rw [List.length_append, hlen]; simp; omega)]
    rfl
theorem zalloc {p : Program} {l : Launch} {e : Env} {R : Room} {s : State} {m : MethodId} {args : Array Value} {below : List Frame} {meth : Method} {c : Code} {H1 : Heap} {locs : List Loc} {Q : State → Prop} {F : JFrame} {g : zG} {μ : zS} {k n q : Nat} {e' : va_E} {K : zK} (hk : s.heap.size + k ≤ zB g + μ.1.length) (hP1 : va_P g.2.1 vwCl (zWs g μ ++ [(q, e')]) H1) (hD1 : va_D (zA g) (zWs g μ ++ [(q, e')])) (he : e' = zE g (zNew μ K) μ.1.length K) (hB : zB g ≤ s.heap.size) (hS1 : va_S (zA g) s.heap H1 locs) (h : q = zB g + μ.1.length → zR g (zNew μ K) H1 → W p l e R s m args below meth c H1 locs (k + 1) n Q F) : W p l e R s m args below meth c H1 locs (k + 1) n Q F := by
  have hlen : (zWs g μ).length = μ.1.length := by simp [zWs]
  have hq : (zWs g μ ++ [(q, e')])[μ.1.length]? = some (q, e') := by rw [List.getElem?_append_right (by omega)]; simp [hlen]
  have hqA : zB g ≤ q := hD1.2 _ _ hq
  have hap : ∀ j, j < μ.1.length → q ≠ zB g + j := by
    intro j hj hqj
    have h1 : (zWs g μ ++ [(q, e')])[j]? = some (zB g + j, zE g μ j (μ.1[j])) := by
      rw [List.getElem?_append_left (by omega)]
      exact zWs_get (List.getElem?_eq_getElem hj)
    have := hD1.1 _ _ _ _ hq h1 hqj
    omega
  intro T hT X
  have h1 : T.heap.size ≤ s.heap.size + (k + 1) := X.heapSize
  rw [hT] at h1
  have hlt : q < H1.size := (hP1 _ _ hq).lt
  have hqe : q = zB g + μ.1.length := by
    rcases Nat.lt_or_ge q (zB g + μ.1.length) with h2 | h2
    · exact absurd (show q = zB g + (q - zB g) by omega) (hap (q - zB g) (by omega))
    · omega
  subst he
  refine h hqe ⟨?_, ?_⟩ T hT X
  · show H1.size = zB g + (μ.1 ++ [K]).length
    rw [List.length_append]
    simp
    omega
  · rw [zWs_new, ← hqe]
    exact hP1
section ZR
variable {τ : Type} {g : zG} {y : zY} {d mc ms : Nat} {w : τ → Option Value × zS} {o : τ} {k n pc : Nat} {ls : List (Option Value)} {st stk : List Value} {μ : zS} {f : Option τ}
theorem zj_objInit {idx : Nat} {r : Option Nat} {f : Option τ} (hr : ∃ a, r = some a) (hl : Cond.methodLink y.1.cls idx Lib.objectInit ∈ gtbl) (h2 : Cond.instanceMethod Lib.objectInit ∈ gtbl) (h3 : Cond.code Lib.objectInit ⟨#[0xb1]⟩ 1 none ∈ gtbl) (hd1 : 1 ≤ d) (h8 : (st.map fun v => v.category).sum ≤ 8) (hd : decode y.2.1 pc = .ok (.invokespecial idx, 3)) (kk : zJ g y d mc ms w o k n (pc + 3) ls st μ f) : zJ g y d mc ms w o k n pc ls (zr g r :: st) μ f := by
  intro hf p e s m args below meth c H locs A hC hR hS hlA hk
  obtain ⟨a, rfl⟩ := hr
  have hts := hC.2.2.2.2.2.1
  exact W.objInit hC.1 hC.2.1 hC.2.2.2.2.1 (hts _ hl) (hts _ h2) (hts _ h3) rfl (hlA.1.trans hC.2.2.2.1.symm) (a := zB g + a) rfl hd hd1 (by
    show 2 * 0 + _ + 12 ≤ 80 * d
    omega) (kk hf p e s m args below meth c H locs A hC hR hS hlA hk)
theorem zj_new {idx ci : Nat} {C : String} {T : u_T} {N : Nat} {f : Nat → zS → Option τ} (hcl : zCls ci C T N) (hdf : ∀ j, j < N → (zft ci).getD j .int ≠ .float ∧ (zft ci).getD j .int ≠ .double) (h1 : Cond.classLink y.1.cls idx C ∈ gtbl) (h2 : Cond.instantiable C N ∈ gtbl) (h3 : Cond.initialized C ∈ gtbl) (hb : k + 1 ≤ mc ∧ n + N ≤ ms) (hd : decode y.2.1 pc = .ok (.new idx, 3)) (kk : ∀ a μ', zJ g y d mc ms w o (k + 1) (n + N) (pc + 3) ls (zr g (some a) :: st) μ' (f a μ')) : zJ g y d mc ms w o k n pc ls st μ ((znw μ (.inr ci)).bind (fun q => f q.1 q.2)) := by
  intro hf p e s m args below meth c H locs A hC hR hS hl hk
  have hts := hC.2.2.2.2.2.1
  refine va_new (ci := ci) (fs := zfs g (zNew μ (.inr ci)) μ.1.length (zft ci)) (C := C) (T := T) (N := N) hC.1 hC.2.1 hts hcl.2.2.2.2 (fun j => (zft ci).getD j .int) hcl.2.2.1 hC.2.2.2.2.1 (hts _ h1) (hts _ h2) (hts _ h3) hC.2.2.2.2.2.2.1 hR.2 (zD μ) hS (fun q hq => Nat.le_trans hC.2.2.2.2.2.2.2.2.2.1 hq) hcl.1 (fun j hj => ?_) hb.1 hb.2 hd (fun q H1 hP1 hD1 hS1 => ?_)
  · have hjl : j < (zft ci).length := by rw [hcl.2.1]; exact hj
    have hz := hdf j hj
    unfold vp_V
    simp only [List.getD_eq_getElem?_getD] at hz ⊢
    rw [zfs_at]
    rw [List.getElem?_eq_getElem hjl] at hz ⊢
    simp only [Option.map_some, Option.getD_some] at hz ⊢
    cases hty : (zft ci)[j] <;> simp [hty, zv, zNew, defaultValue, zr, va_rf] at hz ⊢
  · refine zalloc (K := .inr ci) hk hP1 hD1 rfl hC.2.2.2.2.2.2.2.2.2.1 hS1 (fun hq hR1 => ?_)
    rw [hq]
    exact kk μ.1.length (zNew μ (.inr ci)) hf p e s m args below meth c H1 locs A hC hR1 hS1 hl (by show _ ≤ zB g + (μ.1 ++ [_]).length; rw [List.length_append]; simp; omega)
theorem zj_newa {atype : ArrayType} {ty : FieldType} {len : Int32} {N : Nat} {f : Nat → zS → Option τ} (t0 : Nat) (hty : newarray.typeOf atype = ty) (ht : (ztys g)[t0]? = some (g.2.2.1 ty, ty)) (hz : (ty = .int ∨ ty = .boolean ∨ ty = .char) ∨ ty = .long) (ha : Cond.arrayClass ty ∈ gtbl) (hn : ¬ len < 0) (hN : len.toNatClampNeg = N) (hby : N ≤ 10000) (hb : k + 1 ≤ mc ∧ n + N ≤ ms) (hd : decode y.2.1 pc = .ok (.newarray atype, 2)) (kk : ∀ a μ', zJ g y d mc ms w o (k + 1) (n + N) (pc + 2) ls (zr g (some a) :: st) μ' (f a μ')) : zJ g y d mc ms w o k n pc ls (.int len :: st) μ ((znw μ (.inl (ty, N))).bind (fun q => f q.1 q.2)) := by
  intro hf p e s m args below meth c H locs A hC hR hS hl hk
  have hts := hC.2.2.2.2.2.1
  refine va_newa (ty := ty) (N' := N) (a0 := (N, zar g (zNew μ (.inl (ty, N))) μ.1.length ty)) hC.1 hC.2.1 (by rw [hty]; exact hts _ ha) hty hC.2.2.2.2.2.2.1 hR.2 (zD μ) hS (fun q hq => Nat.le_trans hC.2.2.2.2.2.2.2.2.2.1 hq) (fun cA => ?_) hn hN ?_ hb.1 hb.2 hd (fun q cA H1 hK1 hP1 hD1 hS1 => ?_)
  · rcases hz with (rfl | rfl | rfl) | rfl <;> simp [vp_cell, zar, zNew, defaultValue]
  · rcases hz with (rfl | rfl | rfl) | rfl <;> simp only [componentBytes] <;> omega
  · have hcA : cA = g.2.2.1 ty := by
      have h1 := (hK1.2 (ztys g).length (cA, ty) (by simp)).2
      have h2 := (hC.2.2.2.2.2.2.1.2 t0 _ ht).2
      rcases hz with (rfl | rfl | rfl) | rfl <;> exact Option.some.inj (h1.symm.trans h2)
    subst hcA
    refine zalloc (K := .inl (ty, N)) hk hP1 hD1 rfl hC.2.2.2.2.2.2.2.2.2.1 hS1 (fun hq hR1 => ?_)
    rw [hq]
    exact kk μ.1.length (zNew μ (.inl (ty, N))) hf p e s m args below meth c H1 locs A hC hR1 hS1 hl (by show _ ≤ zB g + (μ.1 ++ [_]).length; rw [List.length_append]; simp; omega)
theorem zj_anew {idx : Nat} {C : String} {len : Int32} {N : Nat} {f : Nat → zS → Option τ} (t0 : Nat) (ht : (ztys g)[t0]? = some (g.2.2.1 (.object C), .object C)) (hao : ∀ s, zOld g s → va_AO C s) (h1 : Cond.classLink y.1.cls idx C ∈ gtbl) (hn : ¬ len < 0) (hN : len.toNatClampNeg = N) (hby : N ≤ 10000) (hb : k + 1 ≤ mc ∧ n + N ≤ ms) (hd : decode y.2.1 pc = .ok (.anewarray idx, 3)) (kk : ∀ a μ', zJ g y d mc ms w o (k + 1) (n + N) (pc + 3) ls (zr g (some a) :: st) μ' (f a μ')) : zJ g y d mc ms w o k n pc ls (.int len :: st) μ ((znw μ (.inl (.object C, N))).bind (fun q => f q.1 q.2)) := by
  intro hf p e s m args below meth c H locs A hC hR hS hl hk
  have hts := hC.2.2.2.2.2.1
  refine va_newq (N' := N) hC.1 hC.2.1 hC.2.2.2.2.1 (hts _ h1) (hao s hC.2.2.2.2.2.2.2.2.2.2) hC.2.2.2.2.2.2.1 hR.2 (zD μ) hS (fun q hq => Nat.le_trans hC.2.2.2.2.2.2.2.2.2.1 hq) hn hN (by omega) hb.1 hb.2 hd (fun q cA H1 hK1 hP1 hD1 hS1 => ?_)
  have hcA : cA = g.2.2.1 (.object C) := by
    obtain ⟨_, _, -, -, -, h1⟩ := (hK1.2 (ztys g).length (cA, .object C) (by simp)).2
    obtain ⟨_, _, -, -, -, h2⟩ := (hC.2.2.2.2.2.2.1.2 t0 _ ht).2
    exact Option.some.inj (h1.symm.trans h2)
  subst hcA
  refine zalloc (K := .inl (.object C, N)) hk hP1 hD1 (by simp [zE, zar, zNew]) hC.2.2.2.2.2.2.2.2.2.1 hS1 (fun hq hR1 => ?_)
  rw [hq]
  exact kk μ.1.length (zNew μ (.inl (.object C, N))) hf p e s m args below meth c H1 locs A hC hR1 hS1 hl (by show _ ≤ zB g + (μ.1 ++ [_]).length; rw [List.length_append]; simp; omega)
/-- System.arraycopy of ints -/
def zcp (μ : zS) (r1 : Option Nat) (i : Int32) (r2 : Option Nat) (j len : Int32) : Option zS := match r1, r2 with
  | some a, some b => match μ.1[a]?, μ.1[b]? with
    | some (.inl q1), some (.inl q2) => if (q1.1 = .int ∧ q2.1 = .int) ∧ ¬ i < 0 ∧ ¬ j < 0 ∧ ¬ len < 0 ∧ i.toNatClampNeg + len.toNatClampNeg ≤ q1.2 ∧ j.toNatClampNeg + len.toNatClampNeg ≤ q2.2 then some (μ.1, fun c h => if c = b then va_cpy (μ.2.1 a) (μ.2.1 b) i.toNatClampNeg j.toNatClampNeg len.toNatClampNeg h else μ.2.1 c h, μ.2.2) else none
    | _, _ => none
  | _, _ => none
theorem zcp_some {μ : zS} {r1 r2 : Option Nat} {i j len : Int32} {o2 : zS} (h : zcp μ r1 i r2 j len = some o2) : ∃ a b n1 n2, r1 = some a ∧ r2 = some b ∧ μ.1[a]? = some (.inl (.int, n1)) ∧ μ.1[b]? = some (.inl (.int, n2)) ∧ ¬ i < 0 ∧ ¬ j < 0 ∧ ¬ len < 0 ∧ i.toNatClampNeg + len.toNatClampNeg ≤ n1 ∧ j.toNatClampNeg + len.toNatClampNeg ≤ n2 ∧ o2 = (μ.1, fun c h => if c = b then va_cpy (μ.2.1 a) (μ.2.1 b) i.toNatClampNeg j.toNatClampNeg len.toNatClampNeg h else μ.2.1 c h, μ.2.2) := by
  cases r1 with
  | none => cases h
  | some a =>
    cases r2 with
    | none => cases h
    | some b =>
      simp only [zcp] at h
      cases ha : μ.1[a]? with
      | none => rw [ha] at h; cases h
      | some K1 =>
        cases hb : μ.1[b]? with
        | none => rw [ha, hb] at h; cases K1 <;> cases h
        | some K2 =>
          rw [ha, hb] at h
          cases K1 with
          | inr _ => cases h
          | inl q1 =>
            cases K2 with
            | inr _ => cases h
            | inl q2 =>
              obtain ⟨t1, n1⟩ := q1
              obtain ⟨t2, n2⟩ := q2
              dsimp only at h
              split at h
              · rename_i hc
                obtain ⟨⟨rfl, rfl⟩, h1, h2, h3, h4, h5⟩ := hc
                cases h
                exact ⟨a, b, n1, n2, rfl, rfl, ha, hb, h1, h2, h3, h4, h5, rfl⟩
              · cases h
theorem zj_acopy {idx : Nat} {r1 r2 : Option Nat} {i j len : Int32} {f : zS → Option τ} (hl : Cond.methodLink y.1.cls idx arraycopyName ∈ gtbl) (h1 : Cond.native arraycopyName ∈ gtbl) (h2 : Cond.static arraycopyName ∈ gtbl) (h3 : Cond.initialized "java/lang/System" ∈ gtbl) (hd1 : 2 ≤ d) (h8 : (st.map fun v => v.category).sum ≤ 8) (hd : decode y.2.1 pc = .ok (.invokestatic idx, 3)) (kk : ∀ μ', zJ g y d mc ms w o k n (pc + 3) ls st μ' (f μ')) : zJ g y d mc ms w o k n pc ls (.int len :: .int j :: zr g r2 :: .int i :: zr g r1 :: st) μ ((zcp μ r1 i r2 j len).bind f) := by
  intro hf p e s m args below meth c H locs A hC hR hS hlA hk
  obtain ⟨o2, q1, hf2⟩ := zbind_some hf
  obtain ⟨a, b, n1, n2, rfl, rfl, ha, hb, g1, g2, g3, g4, g5, ho⟩ := zcp_some q1
  have hts := hC.2.2.2.2.2.1
  refine va_copyi (ty := .int) hC.1 hC.2.1 (hC.2.2.2.1.trans hlA.1.symm) hC.2.2.2.2.1 (hts _ hl) (hts _ h1) (hts _ h2) (hts _ h3) hC.2.2.2.2.2.2.1 hR.2 (zD μ) hS a b 0 0 (zWs_get ha) (zWs_get hb) rfl rfl rfl g1 g2 g3 g4 g5 (fun _ _ => rfl) (by show 1 ≤ d; omega) (by
    have hw : nativeFrameWords "java/lang/System" "arraycopy" 5 + 11 ≤ 152 := by decide
    show _ ≤ 80 * d
    omega) hd (fun H1 locs1 hP1 _ hS1 => ?_)
  rw [zWs_set (μ' := o2) (K := .inl (.int, n2)) hb (by rw [ho]) (fun x hx K' => zE_congr (by rw [ho]; funext z; simp [hx]) (by rw [ho]) (by rw [ho]) K') (by rw [ho]; simp [zE, zar])] at hP1
  have hk2 : s.heap.size + k ≤ zB g + o2.1.length := by rw [ho]; exact hk
  exact zsz (μ := o2) hk2 hC.2.2.2.2.2.2.2.2.2.1 hP1 hS1 (fun hR1 => kk o2 hf2 p e s m args below meth c H1 locs1 A hC hR1 hS1 hlA hk2)
end ZR
end
