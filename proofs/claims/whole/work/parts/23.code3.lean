def F_M_reckon (u0 : zS) (a1 : Int32) (a2 : Int32) (a3 : Int32) : Option (Int32) := if a1 = 2 then (if a2 = 0 then (some 0) else (if a3 = 0 then (some 0) else (some 1))) else if a1 = 42 then (some (a2 * a3)) else if a1 = 43 then (some (a2 + a3)) else if a1 = 45 then (some (a2 - a3)) else if a1 = 60 then (if a3 ≤ a2 then (some 0) else (some 1)) else if a1 = 61 then (if a2 = a3 then (some 1) else (some 0)) else (if a2 = 0 then (if a3 = 0 then (some 0) else (some 1)) else (some 1))
set_option maxHeartbeats 4000000 in
set_option maxRecDepth 100000 in
theorem B_M_reckon (g : zG) (d : Nat) {u0 : zS} {a1 : Int32} {a2 : Int32} {a3 : Int32} {o : Int32} (h : F_M_reckon u0 a1 a2 a3 = some o) : zMt g zy_M_reckon (d + 1) 0 0 [.int a1, .int a2, .int a3] u0 (some (.int o)) u0 := by
  refine zMt_of2 (ls := [some (.int a1), some (.int a2), some (.int a3)]) 0 (by decide +kernel) (by simp [lg_sl, zr_cat, zcI, zcJ]) (by simp [zal, zr_cat, zcI, zcJ, List.replicate]) ?_
  revert h
  show zJ g zy_M_reckon (d + 1) 0 0 (zwIp u0) o 0 0 0 [some (.int a1), some (.int a2), some (.int a3)] [] u0 (F_M_reckon u0 a1 a2 a3)
  unfold F_M_reckon
  refine zj_iload_n d_M_reckon_0 rfl ?_
  refine zj_ite (fun hq => ?_) (fun h1 => ?_)
  · refine zj_lsw 94 d_M_reckon_1 (by decide) (by rw [hq]) rfl ?_
    refine zj_iload_n d_M_reckon_94 rfl ?_
    refine zj_if_eq 106 d_M_reckon_95 rfl (fun _ => ?_) (fun _ => ?_)
    · refine zj_iconst 0 d_M_reckon_106 (by decide) ?_
      exact zj_iret rfl rfl rfl rfl d_M_reckon_107
    refine zj_iload_n d_M_reckon_98 rfl ?_
    refine zj_if_eq 106 d_M_reckon_99 rfl (fun _ => ?_) (fun _ => ?_)
    · refine zj_iconst 0 d_M_reckon_106 (by decide) ?_
      exact zj_iret rfl rfl rfl rfl d_M_reckon_107
    refine zj_iconst 1 d_M_reckon_102 (by decide) ?_
    refine zj_goto 107 d_M_reckon_103 rfl ?_
    exact zj_iret rfl rfl rfl rfl d_M_reckon_107
  refine zj_ite (fun hq => ?_) (fun h2 => ?_)
  · refine zj_lsw 68 d_M_reckon_1 (by decide) (by rw [hq]) rfl ?_
    refine zj_iload_n d_M_reckon_68 rfl ?_
    refine zj_iload_n d_M_reckon_69 rfl ?_
    refine zj_imul d_M_reckon_70 ?_
    exact zj_iret rfl rfl rfl rfl d_M_reckon_71
  refine zj_ite (fun hq => ?_) (fun h3 => ?_)
  · refine zj_lsw 60 d_M_reckon_1 (by decide) (by rw [hq]) rfl ?_
    refine zj_iload_n d_M_reckon_60 rfl ?_
    refine zj_iload_n d_M_reckon_61 rfl ?_
    refine zj_iadd d_M_reckon_62 ?_
    exact zj_iret rfl rfl rfl rfl d_M_reckon_63
  refine zj_ite (fun hq => ?_) (fun h4 => ?_)
  · refine zj_lsw 64 d_M_reckon_1 (by decide) (by rw [hq]) rfl ?_
    refine zj_iload_n d_M_reckon_64 rfl ?_
    refine zj_iload_n d_M_reckon_65 rfl ?_
    refine zj_isub d_M_reckon_66 ?_
    exact zj_iret rfl rfl rfl rfl d_M_reckon_67
  refine zj_ite (fun hq => ?_) (fun h5 => ?_)
  · refine zj_lsw 72 d_M_reckon_1 (by decide) (by rw [hq]) rfl ?_
    refine zj_iload_n d_M_reckon_72 rfl ?_
    refine zj_iload_n d_M_reckon_73 rfl ?_
    refine zj_icmp_ge 81 d_M_reckon_74 rfl (fun _ => ?_) (fun _ => ?_)
    · refine zj_iconst 0 d_M_reckon_81 (by decide) ?_
      exact zj_iret rfl rfl rfl rfl d_M_reckon_82
    refine zj_iconst 1 d_M_reckon_77 (by decide) ?_
    refine zj_goto 82 d_M_reckon_78 rfl ?_
    exact zj_iret rfl rfl rfl rfl d_M_reckon_82
  refine zj_ite (fun hq => ?_) (fun h6 => ?_)
  · refine zj_lsw 83 d_M_reckon_1 (by decide) (by rw [hq]) rfl ?_
    refine zj_iload_n d_M_reckon_83 rfl ?_
    refine zj_iload_n d_M_reckon_84 rfl ?_
    refine zj_icmp_ne 92 d_M_reckon_85 rfl (fun _ => ?_) (fun _ => ?_)
    · refine zj_iconst 0 d_M_reckon_92 (by decide) ?_
      exact zj_iret rfl rfl rfl rfl d_M_reckon_93
    refine zj_iconst 1 d_M_reckon_88 (by decide) ?_
    refine zj_goto 93 d_M_reckon_89 rfl ?_
    exact zj_iret rfl rfl rfl rfl d_M_reckon_93
  refine zj_lsw 108 d_M_reckon_1 (by decide) (by show Op.lookupswitch.offset [(2, 93), (42, 67), (43, 59), (45, 63), (60, 71), (61, 82)] _ _ = _; rw [lv_osw (k := 2) h1 (by decide), lv_osw (k := 42) h2 (by decide), lv_osw (k := 43) h3 (by decide), lv_osw (k := 45) h4 (by decide), lv_osw (k := 60) h5 (by decide), lv_osw (k := 61) h6 (by decide)]) rfl ?_
  refine zj_iload_n d_M_reckon_108 rfl ?_
  refine zj_if_ne 116 d_M_reckon_109 rfl (fun _ => ?_) (fun _ => ?_)
  · refine zj_iconst 1 d_M_reckon_116 (by decide) ?_
    refine zj_goto 121 d_M_reckon_117 rfl ?_
    exact zj_iret rfl rfl rfl rfl d_M_reckon_121
  refine zj_iload_n d_M_reckon_112 rfl ?_
  refine zj_if_eq 120 d_M_reckon_113 rfl (fun _ => ?_) (fun _ => ?_)
  · refine zj_iconst 0 d_M_reckon_120 (by decide) ?_
    exact zj_iret rfl rfl rfl rfl d_M_reckon_121
  refine zj_iconst 1 d_M_reckon_116 (by decide) ?_
  refine zj_goto 121 d_M_reckon_117 rfl ?_
  exact zj_iret rfl rfl rfl rfl d_M_reckon_121
def F_M_taughtMany (u0 : zS) (this : Nat) (a1 : Int32) : Option (Int32) := zfix2 (fun (r1 : Int32 → Int32 → Option (Int32)) (x2 : Int32) (x3 : Int32) => (zgI u0 9 (some this) 1).bind fun v4 => if v4 ≤ x3 then (some x2) else ((zgR u0 9 (some this) 12).bind fun v5 => (zaI u0 .boolean v5 (((6 : Int32) * a1) + x3)).bind fun v6 => if v6 = 0 then (r1 (x2 + 0) (x3 + 1)) else (r1 (x2 + 1) (x3 + 1)))) zFU 0 0
set_option maxHeartbeats 4000000 in
set_option maxRecDepth 100000 in
theorem B_M_taughtMany (g : zG) (d : Nat) {u0 : zS} {this : Nat} {a1 : Int32} {o : Int32} (h : F_M_taughtMany u0 this a1 = some o) : zMt g zy_M_taughtMany (d + 1) 0 0 [zr g (some this), .int a1] u0 (some (.int o)) u0 := by
  refine zMt_of2 (ls := [some (zr g (some this)), some (.int a1), none, none]) 2 (by decide +kernel) (by simp [lg_sl, zr_cat, zcI, zcJ]) (by simp [zal, zr_cat, zcI, zcJ, List.replicate]) ?_
  revert h
  show zJ g zy_M_taughtMany (d + 1) 0 0 (zwIp u0) o 0 0 0 [some (zr g (some this)), some (.int a1), none, none] [] u0 (F_M_taughtMany u0 this a1)
  unfold F_M_taughtMany
  refine zj_iconst 0 d_M_taughtMany_0 (by decide) ?_
  refine zj_istore_n [some (zr g (some this)), some (.int a1), some (.int 0), none] d_M_taughtMany_1 (by decide) rfl rfl ?_
  refine zj_iconst 0 d_M_taughtMany_2 (by decide) ?_
  refine zj_istore_n [some (zr g (some this)), some (.int a1), some (.int 0), some (.int 0)] d_M_taughtMany_3 (by decide) rfl rfl ?_
  refine zj_fix2 (fun x2 x3 => [some (zr g (some this)), some (.int a1), some (.int x2), some (.int x3)]) (fun x2 x3 => u0) (fun r1 hr1 x2 x3 => ?_) 0 0
  refine zj_iload_n d_M_taughtMany_4 rfl ?_
  refine zj_aload_n d_M_taughtMany_5 rfl ?_
  refine zj_getI fl_M_106 (fun _ _ _ _ => rfl) d_M_taughtMany_6 (fun v4 => ?_)
  refine zj_icmp_ge 40 d_M_taughtMany_9 rfl (fun _ => ?_) (fun _ => ?_)
  · refine zj_iload_n d_M_taughtMany_40 rfl ?_
    exact zj_iret rfl rfl rfl rfl d_M_taughtMany_41
  refine zj_iload_n d_M_taughtMany_12 rfl ?_
  refine zj_aload_n d_M_taughtMany_13 rfl ?_
  refine zj_getR fl_M_39 (fun _ _ _ _ => rfl) d_M_taughtMany_14 (fun v5 => ?_)
  refine zj_bipush 6 d_M_taughtMany_17 (by decide) ?_
  refine zj_iload_n d_M_taughtMany_19 rfl ?_
  refine zj_imul d_M_taughtMany_20 ?_
  refine zj_iload_n d_M_taughtMany_21 rfl ?_
  refine zj_iadd d_M_taughtMany_22 ?_
  refine zj_zaload d_M_taughtMany_23 (fun v6 => ?_)
  refine zj_if_eq 31 d_M_taughtMany_24 rfl (fun _ => ?_) (fun _ => ?_)
  · refine zj_iconst 0 d_M_taughtMany_31 (by decide) ?_
    refine zj_iadd d_M_taughtMany_32 ?_
    refine zj_istore_n [some (zr g (some this)), some (.int a1), some (.int (x2 + 0)), some (.int x3)] d_M_taughtMany_33 (by decide) rfl rfl ?_
    refine zj_iinc (v := (x3 + 1)) [some (zr g (some this)), some (.int a1), some (.int (x2 + 0)), some (.int (x3 + 1))] d_M_taughtMany_34 rfl rfl (by decide) rfl rfl ?_
    refine zj_goto 4 d_M_taughtMany_37 rfl ?_
    exact hr1 (x2 + 0) (x3 + 1)
  refine zj_iconst 1 d_M_taughtMany_27 (by decide) ?_
  refine zj_goto 32 d_M_taughtMany_28 rfl ?_
  refine zj_iadd d_M_taughtMany_32 ?_
  refine zj_istore_n [some (zr g (some this)), some (.int a1), some (.int (x2 + 1)), some (.int x3)] d_M_taughtMany_33 (by decide) rfl rfl ?_
  refine zj_iinc (v := (x3 + 1)) [some (zr g (some this)), some (.int a1), some (.int (x2 + 1)), some (.int (x3 + 1))] d_M_taughtMany_34 rfl rfl (by decide) rfl rfl ?_
  refine zj_goto 4 d_M_taughtMany_37 rfl ?_
  exact hr1 (x2 + 1) (x3 + 1)
def F_M_wordOf (u0 : zS) (this : Nat) : Option (Int32) := zfix2 (fun (r1 : Int32 → Int32 → Option (Int32)) (x2 : Int32) (x3 : Int32) => (zgR u0 9 (some this) 29).bind fun v4 => (zln u0 .char v4).bind fun v5 => if v5 ≤ x2 then (some (-1)) else (zfix2 (fun (r6 : Int32 → Int32 → Option (Int32)) (x7 : Int32) (x8 : Int32) => (zgR u0 9 (some this) 29).bind fun v9 => (zaI u0 .char v9 (x2 + x7)).bind fun v10 => if v10 = 32 then (if x8 = 0 then (r1 (x2 + (x7 + 1)) (x3 + 1)) else ((zgI u0 9 (some this) 23).bind fun v11 => (zgI u0 9 (some this) 22).bind fun v12 => if x7 = (v11 - v12) then (some x3) else (r1 (x2 + (x7 + 1)) (x3 + 1)))) else (if x8 = 0 then (r6 (x7 + 1) 0) else ((zgI u0 9 (some this) 22).bind fun v13 => (zgI u0 9 (some this) 23).bind fun v14 => if v14 ≤ (v13 + x7) then (r6 (x7 + 1) 0) else ((zgR u0 9 (some this) 14).bind fun v15 => (zgI u0 9 (some this) 22).bind fun v16 => (zaI u0 .int v15 (v16 + x7)).bind fun v17 => (zgR u0 9 (some this) 29).bind fun v18 => (zaI u0 .char v18 (x2 + x7)).bind fun v19 => if v17 = v19 then (r6 (x7 + 1) 1) else (r6 (x7 + 1) 0))))) zFU 0 1)) zFU 0 0
set_option maxHeartbeats 4000000 in
set_option maxRecDepth 100000 in
theorem B_M_wordOf (g : zG) (d : Nat) {u0 : zS} {this : Nat} {o : Int32} (h : F_M_wordOf u0 this = some o) : zMt g zy_M_wordOf (d + 1) 0 0 [zr g (some this)] u0 (some (.int o)) u0 := by
  refine zMt_of2 (ls := [some (zr g (some this)), none, none, none, none]) 4 (by decide +kernel) (by simp [lg_sl, zr_cat, zcI, zcJ]) (by simp [zal, zr_cat, zcI, zcJ, List.replicate]) ?_
  revert h
  show zJ g zy_M_wordOf (d + 1) 0 0 (zwIp u0) o 0 0 0 [some (zr g (some this)), none, none, none, none] [] u0 (F_M_wordOf u0 this)
  unfold F_M_wordOf
  refine zj_iconst 0 d_M_wordOf_0 (by decide) ?_
  refine zj_istore_n [some (zr g (some this)), some (.int 0), none, none, none] d_M_wordOf_1 (by decide) rfl rfl ?_
  refine zj_iconst 0 d_M_wordOf_2 (by decide) ?_
  refine zj_istore_n [some (zr g (some this)), some (.int 0), some (.int 0), none, none] d_M_wordOf_3 (by decide) rfl rfl ?_
  refine zj_fix2 (fun x2 x3 => [some (zr g (some this)), some (.int x2), some (.int x3), none, none]) (fun x2 x3 => u0) (fun r1 hr1 x2 x3 => ?_) 0 0
  refine zj_iload_n d_M_wordOf_4 rfl ?_
  refine zj_aload_n d_M_wordOf_5 rfl ?_
  refine zj_getR fl_M_57 (fun _ _ _ _ => rfl) d_M_wordOf_6 (fun v4 => ?_)
  refine zj_alen 2 rfl d_M_wordOf_9 (fun v5 => ?_)
  refine zj_icmp_ge 116 d_M_wordOf_10 rfl (fun _ => ?_) (fun _ => ?_)
  · refine zj_iconst (-1) d_M_wordOf_116 (by decide) ?_
    exact zj_iret rfl rfl rfl rfl d_M_wordOf_117
  refine zj_iconst 0 d_M_wordOf_13 (by decide) ?_
  refine zj_istore_n [some (zr g (some this)), some (.int x2), some (.int x3), some (.int 0), none] d_M_wordOf_14 (by decide) rfl rfl ?_
  refine zj_iconst 1 d_M_wordOf_15 (by decide) ?_
  refine zj_istore [some (zr g (some this)), some (.int x2), some (.int x3), some (.int 0), some (.int 1)] d_M_wordOf_16 (by decide) rfl rfl ?_
  refine zj_fix2 (fun x7 x8 => [some (zr g (some this)), some (.int x2), some (.int x3), some (.int x7), some (.int x8)]) (fun x7 x8 => u0) (fun r6 hr6 x7 x8 => ?_) 0 1
  refine zj_aload_n d_M_wordOf_18 rfl ?_
  refine zj_getR fl_M_57 (fun _ _ _ _ => rfl) d_M_wordOf_19 (fun v9 => ?_)
  refine zj_iload_n d_M_wordOf_22 rfl ?_
  refine zj_iload_n d_M_wordOf_23 rfl ?_
  refine zj_iadd d_M_wordOf_24 ?_
  refine zj_caload d_M_wordOf_25 (fun v10 => ?_)
  refine zj_bipush 32 d_M_wordOf_26 (by decide) ?_
  refine zj_icmp_eq 84 d_M_wordOf_28 rfl (fun _ => ?_) (fun _ => ?_)
  · refine zj_iload d_M_wordOf_84 rfl ?_
    refine zj_if_eq 104 d_M_wordOf_86 rfl (fun _ => ?_) (fun _ => ?_)
    · refine zj_iload_n d_M_wordOf_104 rfl ?_
      refine zj_iload_n d_M_wordOf_105 rfl ?_
      refine zj_iconst 1 d_M_wordOf_106 (by decide) ?_
      refine zj_iadd d_M_wordOf_107 ?_
      refine zj_iadd d_M_wordOf_108 ?_
      refine zj_istore_n [some (zr g (some this)), some (.int (x2 + (x7 + 1))), some (.int x3), some (.int x7), some (.int x8)] d_M_wordOf_109 (by decide) rfl rfl ?_
      refine zj_iinc (v := (x3 + 1)) [some (zr g (some this)), some (.int (x2 + (x7 + 1))), some (.int (x3 + 1)), some (.int x7), some (.int x8)] d_M_wordOf_110 rfl rfl (by decide) rfl rfl ?_
      refine zj_goto 4 d_M_wordOf_113 rfl ?_
      refine zj_cut [some (zr g (some this)), some (.int (x2 + (x7 + 1))), some (.int (x3 + 1)), none, none] ⟨rfl, ⟨rfl, ⟨rfl, trivial⟩⟩⟩ ?_
      exact hr1 (x2 + (x7 + 1)) (x3 + 1)
    refine zj_iload_n d_M_wordOf_89 rfl ?_
    refine zj_aload_n d_M_wordOf_90 rfl ?_
    refine zj_getI fl_M_169 (fun _ _ _ _ => rfl) d_M_wordOf_91 (fun v11 => ?_)
    refine zj_aload_n d_M_wordOf_94 rfl ?_
    refine zj_getI fl_M_166 (fun _ _ _ _ => rfl) d_M_wordOf_95 (fun v12 => ?_)
    refine zj_isub d_M_wordOf_98 ?_
    refine zj_icmp_ne 104 d_M_wordOf_99 rfl (fun _ => ?_) (fun _ => ?_)
    · refine zj_iload_n d_M_wordOf_104 rfl ?_
      refine zj_iload_n d_M_wordOf_105 rfl ?_
      refine zj_iconst 1 d_M_wordOf_106 (by decide) ?_
      refine zj_iadd d_M_wordOf_107 ?_
      refine zj_iadd d_M_wordOf_108 ?_
      refine zj_istore_n [some (zr g (some this)), some (.int (x2 + (x7 + 1))), some (.int x3), some (.int x7), some (.int x8)] d_M_wordOf_109 (by decide) rfl rfl ?_
      refine zj_iinc (v := (x3 + 1)) [some (zr g (some this)), some (.int (x2 + (x7 + 1))), some (.int (x3 + 1)), some (.int x7), some (.int x8)] d_M_wordOf_110 rfl rfl (by decide) rfl rfl ?_
      refine zj_goto 4 d_M_wordOf_113 rfl ?_
      refine zj_cut [some (zr g (some this)), some (.int (x2 + (x7 + 1))), some (.int (x3 + 1)), none, none] ⟨rfl, ⟨rfl, ⟨rfl, trivial⟩⟩⟩ ?_
      exact hr1 (x2 + (x7 + 1)) (x3 + 1)
    refine zj_iload_n d_M_wordOf_102 rfl ?_
    exact zj_iret rfl rfl rfl rfl d_M_wordOf_103
  refine zj_iload d_M_wordOf_31 rfl ?_
  refine zj_if_eq 75 d_M_wordOf_33 rfl (fun _ => ?_) (fun _ => ?_)
  · refine zj_iconst 0 d_M_wordOf_75 (by decide) ?_
    refine zj_istore [some (zr g (some this)), some (.int x2), some (.int x3), some (.int x7), some (.int 0)] d_M_wordOf_76 (by decide) rfl rfl ?_
    refine zj_iinc (v := (x7 + 1)) [some (zr g (some this)), some (.int x2), some (.int x3), some (.int (x7 + 1)), some (.int 0)] d_M_wordOf_78 rfl rfl (by decide) rfl rfl ?_
    refine zj_goto 18 d_M_wordOf_81 rfl ?_
    exact hr6 (x7 + 1) 0
  refine zj_aload_n d_M_wordOf_36 rfl ?_
  refine zj_getI fl_M_166 (fun _ _ _ _ => rfl) d_M_wordOf_37 (fun v13 => ?_)
  refine zj_iload_n d_M_wordOf_40 rfl ?_
  refine zj_iadd d_M_wordOf_41 ?_
  refine zj_aload_n d_M_wordOf_42 rfl ?_
  refine zj_getI fl_M_169 (fun _ _ _ _ => rfl) d_M_wordOf_43 (fun v14 => ?_)
  refine zj_icmp_ge 75 d_M_wordOf_46 rfl (fun _ => ?_) (fun _ => ?_)
  · refine zj_iconst 0 d_M_wordOf_75 (by decide) ?_
    refine zj_istore [some (zr g (some this)), some (.int x2), some (.int x3), some (.int x7), some (.int 0)] d_M_wordOf_76 (by decide) rfl rfl ?_
    refine zj_iinc (v := (x7 + 1)) [some (zr g (some this)), some (.int x2), some (.int x3), some (.int (x7 + 1)), some (.int 0)] d_M_wordOf_78 rfl rfl (by decide) rfl rfl ?_
    refine zj_goto 18 d_M_wordOf_81 rfl ?_
    exact hr6 (x7 + 1) 0
  refine zj_aload_n d_M_wordOf_49 rfl ?_
  refine zj_getR fl_M_45 (fun _ _ _ _ => rfl) d_M_wordOf_50 (fun v15 => ?_)
  refine zj_aload_n d_M_wordOf_53 rfl ?_
  refine zj_getI fl_M_166 (fun _ _ _ _ => rfl) d_M_wordOf_54 (fun v16 => ?_)
  refine zj_iload_n d_M_wordOf_57 rfl ?_
  refine zj_iadd d_M_wordOf_58 ?_
  refine zj_iaload d_M_wordOf_59 (fun v17 => ?_)
  refine zj_aload_n d_M_wordOf_60 rfl ?_
  refine zj_getR fl_M_57 (fun _ _ _ _ => rfl) d_M_wordOf_61 (fun v18 => ?_)
  refine zj_iload_n d_M_wordOf_64 rfl ?_
  refine zj_iload_n d_M_wordOf_65 rfl ?_
  refine zj_iadd d_M_wordOf_66 ?_
  refine zj_caload d_M_wordOf_67 (fun v19 => ?_)
  refine zj_icmp_ne 75 d_M_wordOf_68 rfl (fun _ => ?_) (fun _ => ?_)
  · refine zj_iconst 0 d_M_wordOf_75 (by decide) ?_
    refine zj_istore [some (zr g (some this)), some (.int x2), some (.int x3), some (.int x7), some (.int 0)] d_M_wordOf_76 (by decide) rfl rfl ?_
    refine zj_iinc (v := (x7 + 1)) [some (zr g (some this)), some (.int x2), some (.int x3), some (.int (x7 + 1)), some (.int 0)] d_M_wordOf_78 rfl rfl (by decide) rfl rfl ?_
    refine zj_goto 18 d_M_wordOf_81 rfl ?_
    exact hr6 (x7 + 1) 0
  refine zj_iconst 1 d_M_wordOf_71 (by decide) ?_
  refine zj_goto 76 d_M_wordOf_72 rfl ?_
  refine zj_istore [some (zr g (some this)), some (.int x2), some (.int x3), some (.int x7), some (.int 1)] d_M_wordOf_76 (by decide) rfl rfl ?_
  refine zj_iinc (v := (x7 + 1)) [some (zr g (some this)), some (.int x2), some (.int x3), some (.int (x7 + 1)), some (.int 1)] d_M_wordOf_78 rfl rfl (by decide) rfl rfl ?_
  refine zj_goto 18 d_M_wordOf_81 rfl ?_
  exact hr6 (x7 + 1) 1
def F_M_wrong (u0 : zS) (this : Nat) : Option (zS) := (zgI u0 9 (some this) 27).bind fun v1 => if v1 = 0 then ((zpZ u0 9 (some this) 27 1).bind fun u2 => (zgI u2 9 (some this) 22).bind fun v3 => (zpI u2 9 (some this) 28 v3).bind fun u4 => some u4) else (some u0)
set_option maxHeartbeats 4000000 in
set_option maxRecDepth 100000 in
theorem B_M_wrong (g : zG) (d : Nat) {u0 : zS} {this : Nat} {o : zS} (h : F_M_wrong u0 this = some o) : zMt g zy_M_wrong (d + 1) 0 0 [zr g (some this)] u0 none o := by
  refine zMt_of2 (ls := [some (zr g (some this))]) 0 (by decide +kernel) (by simp [lg_sl, zr_cat, zcI, zcJ]) (by simp [zal, zr_cat, zcI, zcJ, List.replicate]) ?_
  revert h
  show zJ g zy_M_wrong (d + 1) 0 0 zwV o 0 0 0 [some (zr g (some this))] [] u0 (F_M_wrong u0 this)
  unfold F_M_wrong
  refine zj_aload_n d_M_wrong_0 rfl ?_
  refine zj_getI fl_M_202 (fun _ _ _ _ => rfl) d_M_wrong_1 (fun v1 => ?_)
  refine zj_if_ne 20 d_M_wrong_4 rfl (fun _ => ?_) (fun _ => ?_)
  · exact zj_vret rfl rfl rfl rfl d_M_wrong_20
  refine zj_aload_n d_M_wrong_7 rfl ?_
  refine zj_iconst 1 d_M_wrong_8 (by decide) ?_
  refine zj_putZ fl_M_202 d_M_wrong_9 (fun u2 => ?_)
  refine zj_aload_n d_M_wrong_12 rfl ?_
  refine zj_aload_n d_M_wrong_13 rfl ?_
  refine zj_getI fl_M_166 (fun _ _ _ _ => rfl) d_M_wrong_14 (fun v3 => ?_)
  refine zj_putI fl_M_206 (fun _ _ _ _ => rfl) ⟨rfl, rfl⟩ d_M_wrong_17 (fun u4 => ?_)
  exact zj_vret rfl rfl rfl rfl d_M_wrong_20
def F_M_yearsOf (u0 : zS) (this : Nat) (a1 : Int32) (a2 : Int32) : Option (Int32) := (zgR u0 9 (some this) 12).bind fun v1 => (zaI u0 .boolean v1 (((6 : Int32) * a1) + a2)).bind fun v2 => if v2 = 0 then (some 99) else ((zgI u0 9 (some this) 10).bind fun v3 => (zgR u0 9 (some this) 11).bind fun v4 => (zaI u0 .int v4 (((6 : Int32) * a1) + a2)).bind fun v5 => some (v3 - v5))
set_option maxHeartbeats 4000000 in
set_option maxRecDepth 100000 in
theorem B_M_yearsOf (g : zG) (d : Nat) {u0 : zS} {this : Nat} {a1 : Int32} {a2 : Int32} {o : Int32} (h : F_M_yearsOf u0 this a1 a2 = some o) : zMt g zy_M_yearsOf (d + 1) 0 0 [zr g (some this), .int a1, .int a2] u0 (some (.int o)) u0 := by
  refine zMt_of2 (ls := [some (zr g (some this)), some (.int a1), some (.int a2)]) 0 (by decide +kernel) (by simp [lg_sl, zr_cat, zcI, zcJ]) (by simp [zal, zr_cat, zcI, zcJ, List.replicate]) ?_
  revert h
  show zJ g zy_M_yearsOf (d + 1) 0 0 (zwIp u0) o 0 0 0 [some (zr g (some this)), some (.int a1), some (.int a2)] [] u0 (F_M_yearsOf u0 this a1 a2)
  unfold F_M_yearsOf
  refine zj_aload_n d_M_yearsOf_0 rfl ?_
  refine zj_getR fl_M_39 (fun _ _ _ _ => rfl) d_M_yearsOf_1 (fun v1 => ?_)
  refine zj_bipush 6 d_M_yearsOf_4 (by decide) ?_
  refine zj_iload_n d_M_yearsOf_6 rfl ?_
  refine zj_imul d_M_yearsOf_7 ?_
  refine zj_iload_n d_M_yearsOf_8 rfl ?_
  refine zj_iadd d_M_yearsOf_9 ?_
  refine zj_zaload d_M_yearsOf_10 (fun v2 => ?_)
  refine zj_if_eq 33 d_M_yearsOf_11 rfl (fun _ => ?_) (fun _ => ?_)
  · refine zj_bipush 99 d_M_yearsOf_33 (by decide) ?_
    exact zj_iret rfl rfl rfl rfl d_M_yearsOf_35
  refine zj_aload_n d_M_yearsOf_14 rfl ?_
  refine zj_getI fl_M_130 (fun _ _ _ _ => rfl) d_M_yearsOf_15 (fun v3 => ?_)
  refine zj_aload_n d_M_yearsOf_18 rfl ?_
  refine zj_getR fl_M_36 (fun _ _ _ _ => rfl) d_M_yearsOf_19 (fun v4 => ?_)
  refine zj_bipush 6 d_M_yearsOf_22 (by decide) ?_
  refine zj_iload_n d_M_yearsOf_24 rfl ?_
  refine zj_imul d_M_yearsOf_25 ?_
  refine zj_iload_n d_M_yearsOf_26 rfl ?_
  refine zj_iadd d_M_yearsOf_27 ?_
  refine zj_iaload d_M_yearsOf_28 (fun v5 => ?_)
  refine zj_isub d_M_yearsOf_29 ?_
  refine zj_goto 35 d_M_yearsOf_30 rfl ?_
  exact zj_iret rfl rfl rfl rfl d_M_yearsOf_35
def F_Integer_bitCount (u0 : zS) (a1 : Int32) : Option (Int32) := zlet ((a1 - (((a1 : Int32).toUInt32 >>> ((1 : Int32).toUInt32 &&& Int32.toUInt32 31)).toInt32 &&& 1431655765)) : Int32) fun x1 => zlet (((x1 &&& 858993459) + (((x1 : Int32).toUInt32 >>> ((2 : Int32).toUInt32 &&& Int32.toUInt32 31)).toInt32 &&& 858993459)) : Int32) fun x2 => zlet (((x2 + ((x2 : Int32).toUInt32 >>> ((4 : Int32).toUInt32 &&& Int32.toUInt32 31)).toInt32) &&& 252645135) : Int32) fun x3 => zlet ((x3 + ((x3 : Int32).toUInt32 >>> ((8 : Int32).toUInt32 &&& Int32.toUInt32 31)).toInt32) : Int32) fun x4 => zlet ((x4 + ((x4 : Int32).toUInt32 >>> ((16 : Int32).toUInt32 &&& Int32.toUInt32 31)).toInt32) : Int32) fun x5 => some (x5 &&& 63)
set_option maxHeartbeats 4000000 in
set_option maxRecDepth 100000 in
theorem B_Integer_bitCount (g : zG) (d : Nat) {u0 : zS} {a1 : Int32} {o : Int32} (h : F_Integer_bitCount u0 a1 = some o) : zMt g zy_Integer_bitCount (d + 1) 0 0 [.int a1] u0 (some (.int o)) u0 := by
  refine zMt_of2 (ls := [some (.int a1)]) 0 (by decide +kernel) (by simp [lg_sl, zr_cat, zcI, zcJ]) (by simp [zal, zr_cat, zcI, zcJ, List.replicate]) ?_
  revert h
  show zJ g zy_Integer_bitCount (d + 1) 0 0 (zwIp u0) o 0 0 0 [some (.int a1)] [] u0 (F_Integer_bitCount u0 a1)
  unfold F_Integer_bitCount
  refine zj_iload_n d_Integer_bitCount_0 rfl ?_
  refine zj_iload_n d_Integer_bitCount_1 rfl ?_
  refine zj_iconst 1 d_Integer_bitCount_2 (by decide) ?_
  refine zj_iushr d_Integer_bitCount_3 ?_
  refine zj_ldcw ci_Integer_265 d_Integer_bitCount_4 ?_
  refine zj_iand d_Integer_bitCount_7 ?_
  refine zj_isub d_Integer_bitCount_8 ?_
  refine zj_letI (fun x1 => ?_)
  refine zj_istore_n [some (.int x1)] d_Integer_bitCount_9 (by decide) rfl rfl ?_
  refine zj_iload_n d_Integer_bitCount_10 rfl ?_
  refine zj_ldcw ci_Integer_266 d_Integer_bitCount_11 ?_
  refine zj_iand d_Integer_bitCount_14 ?_
  refine zj_iload_n d_Integer_bitCount_15 rfl ?_
  refine zj_iconst 2 d_Integer_bitCount_16 (by decide) ?_
  refine zj_iushr d_Integer_bitCount_17 ?_
  refine zj_ldcw ci_Integer_266 d_Integer_bitCount_18 ?_
  refine zj_iand d_Integer_bitCount_21 ?_
  refine zj_iadd d_Integer_bitCount_22 ?_
  refine zj_letI (fun x2 => ?_)
  refine zj_istore_n [some (.int x2)] d_Integer_bitCount_23 (by decide) rfl rfl ?_
  refine zj_iload_n d_Integer_bitCount_24 rfl ?_
  refine zj_iload_n d_Integer_bitCount_25 rfl ?_
  refine zj_iconst 4 d_Integer_bitCount_26 (by decide) ?_
  refine zj_iushr d_Integer_bitCount_27 ?_
  refine zj_iadd d_Integer_bitCount_28 ?_
  refine zj_ldcw ci_Integer_267 d_Integer_bitCount_29 ?_
  refine zj_iand d_Integer_bitCount_32 ?_
  refine zj_letI (fun x3 => ?_)
  refine zj_istore_n [some (.int x3)] d_Integer_bitCount_33 (by decide) rfl rfl ?_
  refine zj_iload_n d_Integer_bitCount_34 rfl ?_
  refine zj_iload_n d_Integer_bitCount_35 rfl ?_
  refine zj_bipush 8 d_Integer_bitCount_36 (by decide) ?_
  refine zj_iushr d_Integer_bitCount_38 ?_
  refine zj_iadd d_Integer_bitCount_39 ?_
  refine zj_letI (fun x4 => ?_)
  refine zj_istore_n [some (.int x4)] d_Integer_bitCount_40 (by decide) rfl rfl ?_
  refine zj_iload_n d_Integer_bitCount_41 rfl ?_
  refine zj_iload_n d_Integer_bitCount_42 rfl ?_
  refine zj_bipush 16 d_Integer_bitCount_43 (by decide) ?_
  refine zj_iushr d_Integer_bitCount_45 ?_
  refine zj_iadd d_Integer_bitCount_46 ?_
  refine zj_letI (fun x5 => ?_)
  refine zj_istore_n [some (.int x5)] d_Integer_bitCount_47 (by decide) rfl rfl ?_
  refine zj_iload_n d_Integer_bitCount_48 rfl ?_
  refine zj_bipush 63 d_Integer_bitCount_49 (by decide) ?_
  refine zj_iand d_Integer_bitCount_51 ?_
  exact zj_iret rfl rfl rfl rfl d_Integer_bitCount_52
def F_Arrays_fill (u0 : zS) (a1 : Option Nat) (a2 : Int32) : Option (zS) := (zln u0 .int a1).bind fun v1 => zfix2 (fun (r2 : zS → Int32 → Option (zS)) (u3 : zS) (x4 : Int32) => if v1 ≤ x4 then (some u3) else ((zsI u3 a1 x4 a2).bind fun u5 => r2 u5 (x4 + 1))) zFU u0 0
set_option maxHeartbeats 4000000 in
set_option maxRecDepth 100000 in
theorem B_Arrays_fill (g : zG) (d : Nat) {u0 : zS} {a1 : Option Nat} {a2 : Int32} {o : zS} (h : F_Arrays_fill u0 a1 a2 = some o) : zMt g zy_Arrays_fill (d + 1) 0 0 [zr g a1, .int a2] u0 none o := by
  refine zMt_of2 (ls := [some (zr g a1), some (.int a2), none, none]) 2 (by decide +kernel) (by simp [lg_sl, zr_cat, zcI, zcJ]) (by simp [zal, zr_cat, zcI, zcJ, List.replicate]) ?_
  revert h
  show zJ g zy_Arrays_fill (d + 1) 0 0 zwV o 0 0 0 [some (zr g a1), some (.int a2), none, none] [] u0 (F_Arrays_fill u0 a1 a2)
  unfold F_Arrays_fill
  refine zj_iconst 0 d_Arrays_fill_0 (by decide) ?_
  refine zj_istore_n [some (zr g a1), some (.int a2), some (.int 0), none] d_Arrays_fill_1 (by decide) rfl rfl ?_
  refine zj_aload_n d_Arrays_fill_2 rfl ?_
  refine zj_alen 0 rfl d_Arrays_fill_3 (fun v1 => ?_)
  refine zj_istore_n [some (zr g a1), some (.int a2), some (.int 0), some (.int v1)] d_Arrays_fill_4 (by decide) rfl rfl ?_
  refine zj_fix2 (fun u3 x4 => [some (zr g a1), some (.int a2), some (.int x4), some (.int v1)]) (fun u3 x4 => u3) (fun r2 hr2 u3 x4 => ?_) u0 0
  refine zj_iload_n d_Arrays_fill_5 rfl ?_
  refine zj_iload_n d_Arrays_fill_6 rfl ?_
  refine zj_icmp_ge 20 d_Arrays_fill_7 rfl (fun _ => ?_) (fun _ => ?_)
  · exact zj_vret rfl rfl rfl rfl d_Arrays_fill_20
  refine zj_aload_n d_Arrays_fill_10 rfl ?_
  refine zj_iload_n d_Arrays_fill_11 rfl ?_
  refine zj_iload_n d_Arrays_fill_12 rfl ?_
  refine zj_iastore d_Arrays_fill_13 (fun u5 => ?_)
  refine zj_iinc (v := (x4 + 1)) [some (zr g a1), some (.int a2), some (.int (x4 + 1)), some (.int v1)] d_Arrays_fill_14 rfl rfl (by decide) rfl rfl ?_
  refine zj_goto 5 d_Arrays_fill_17 rfl ?_
  exact hr2 u5 (x4 + 1)
def F_X_bar (u0 : zS) (this : Nat) (a1 : Int32) (a2 : Int32) (a3 : Int32) : Option (Int32 × zS) := (zob u0 8 (some this)).bind fun q2 => (F_X_isPerson u0 q2 a1).bind fun v1 => if v1 = 0 then (some ((-2), u0)) else ((zgR u0 8 (some this) 0).bind fun v3 => (zob u0 2 v3).bind fun q5 => (F_Office_has u0 q5 a2).bind fun v4 => if v4 = 0 then (some ((-2), u0)) else ((F_X_isFlag u0 a3).bind fun v6 => if v6 = 0 then (some ((-2), u0)) else ((zgR u0 8 (some this) 1).bind fun v7 => (zaR u0 "PostsFilled$Person" v7 a1).bind fun v8 => (zob u0 3 v8).bind fun q10 => (F_Person_isBarred u0 q10 a2).bind fun v9 => zjn1 (fun (j12 : Int32 → Option (Int32 × zS)) => if v9 = 0 then (j12 0) else (j12 1)) (fun (x11 : Int32) => if a3 = 1 then ((zob u0 3 v8).bind fun q18 => (F_Person_setBar u0 q18 a2 1).bind fun u17 => some (x11, u17)) else ((zob u0 3 v8).bind fun q15 => (F_Person_setBar u0 q15 a2 0).bind fun u14 => some (x11, u14))))))
set_option maxHeartbeats 4000000 in
set_option maxRecDepth 100000 in
theorem B_X_bar (g : zG) (d : Nat) {u0 : zS} {this : Nat} {a1 : Int32} {a2 : Int32} {a3 : Int32} {o : Int32 × zS} (h : F_X_bar u0 this a1 a2 a3 = some o) : zMt g zy_X_bar (d + 2) 0 0 [zr g (some this), .int a1, .int a2, .int a3] u0 (some (.int o.1)) o.2 := by
  refine zMt_of2 (ls := [some (zr g (some this)), some (.int a1), some (.int a2), some (.int a3), none, none]) 2 (by decide +kernel) (by simp [lg_sl, zr_cat, zcI, zcJ]) (by simp [zal, zr_cat, zcI, zcJ, List.replicate]) ?_
  revert h
  show zJ g zy_X_bar (d + 2) 0 0 zwI o 0 0 0 [some (zr g (some this)), some (.int a1), some (.int a2), some (.int a3), none, none] [] u0 (F_X_bar u0 this a1 a2 a3)
  unfold F_X_bar
  refine zj_aload_n d_X_bar_0 rfl ?_
  refine zj_iload_n d_X_bar_1 rfl ?_
  refine zj_cVIp (ci := 8) (T := zT8) (N := 16) [.int a1] zm_V_X_isPerson ml_X_129 rfl (fun _ _ h => B_X_isPerson g (d) h) (Nat.le_refl _) ⟨Nat.zero_le _, Nat.zero_le _⟩ rfl rfl (by decide) d_X_bar_2 (fun v1 => ?_)
  refine zj_if_eq 26 d_X_bar_5 rfl (fun _ => ?_) (fun _ => ?_)
  · refine zj_bipush (-2) d_X_bar_26 (by decide) ?_
    exact zj_iret rfl rfl rfl rfl d_X_bar_28
  refine zj_aload_n d_X_bar_8 rfl ?_
  refine zj_getR fl_X_10 (fun _ _ _ _ => rfl) d_X_bar_9 (fun v3 => ?_)
  refine zj_iload_n d_X_bar_12 rfl ?_
  refine zj_cVIp (ci := 2) (T := zT2) (N := 4) [.int a2] zm_V_Office_has ml_X_132 rfl (fun _ _ h => B_Office_has g (d) h) (Nat.le_refl _) ⟨Nat.zero_le _, Nat.zero_le _⟩ rfl rfl (by decide) d_X_bar_13 (fun v4 => ?_)
  refine zj_if_eq 26 d_X_bar_16 rfl (fun _ => ?_) (fun _ => ?_)
  · refine zj_bipush (-2) d_X_bar_26 (by decide) ?_
    exact zj_iret rfl rfl rfl rfl d_X_bar_28
  refine zj_iload_n d_X_bar_19 rfl ?_
  refine zj_cSIp [.int a3] zm_S_X_isFlag ml_X_114 (fun _ h => B_X_isFlag g (d) h) (Nat.le_refl _) ⟨Nat.zero_le _, Nat.zero_le _⟩ rfl rfl (by decide) d_X_bar_20 (fun v6 => ?_)
  refine zj_if_ne 29 d_X_bar_23 rfl (fun _ => ?_) (fun _ => ?_)
  · refine zj_aload_n d_X_bar_29 rfl ?_
    refine zj_getR fl_X_18 (fun _ _ _ _ => rfl) d_X_bar_30 (fun v7 => ?_)
    refine zj_iload_n d_X_bar_33 rfl ?_
    refine zj_aaload 4 rfl d_X_bar_34 (fun v8 => ?_)
    refine zj_astore [some (zr g (some this)), some (.int a1), some (.int a2), some (.int a3), some (zr g v8), none] d_X_bar_35 (by decide) rfl rfl ?_
    refine zj_aload d_X_bar_37 rfl ?_
    refine zj_iload_n d_X_bar_39 rfl ?_
    refine zj_cVIp (ci := 3) (T := zT3) (N := 10) [.int a2] zm_V_Person_isBarred ml_X_135 rfl (fun _ _ h => B_Person_isBarred g (d) h) (Nat.le_refl _) ⟨Nat.zero_le _, Nat.zero_le _⟩ rfl rfl (by decide) d_X_bar_40 (fun v9 => ?_)
    refine zj_jn1 (pcj := 51) (fun x11 => [none, none, some (.int a2), some (.int a3), some (zr g v8), none]) (fun x11 => [.int x11]) (fun x11 => u0) (fun x11 => ?_) (fun j12 hj12 => ?_)
    · refine zj_istore [none, none, some (.int a2), some (.int a3), some (zr g v8), some (.int x11)] d_X_bar_51 (by decide) (by simp [zNL, zr_cat]) rfl ?_
      refine zj_aload d_X_bar_53 rfl ?_
      refine zj_iload_n d_X_bar_55 rfl ?_
      refine zj_iload_n d_X_bar_56 rfl ?_
      refine zj_iconst 1 d_X_bar_57 (by decide) ?_
      refine zj_icmp_ne 65 d_X_bar_58 rfl (fun _ => ?_) (fun _ => ?_)
      · refine zj_iconst 0 d_X_bar_65 (by decide) ?_
        refine zj_cVU (ci := 3) (T := zT3) (N := 10) [.int a2, .int 0] zm_V_Person_setBar ml_X_147 rfl (fun _ _ h => B_Person_setBar g (d) h) (Nat.le_refl _) ⟨Nat.zero_le _, Nat.zero_le _⟩ rfl rfl (by decide) d_X_bar_66 (fun u14 => ?_)
        refine zj_iload d_X_bar_69 rfl ?_
        exact zj_iret rfl rfl rfl rfl d_X_bar_71
      refine zj_iconst 1 d_X_bar_61 (by decide) ?_
      refine zj_goto 66 d_X_bar_62 rfl ?_
      refine zj_cVU (ci := 3) (T := zT3) (N := 10) [.int a2, .int 1] zm_V_Person_setBar ml_X_147 rfl (fun _ _ h => B_Person_setBar g (d) h) (Nat.le_refl _) ⟨Nat.zero_le _, Nat.zero_le _⟩ rfl rfl (by decide) d_X_bar_66 (fun u17 => ?_)
      refine zj_iload d_X_bar_69 rfl ?_
      exact zj_iret rfl rfl rfl rfl d_X_bar_71
    refine zj_if_eq 50 d_X_bar_43 rfl (fun _ => ?_) (fun _ => ?_)
    · refine zj_iconst 0 d_X_bar_50 (by decide) ?_
      refine zj_cut [none, none, some (.int a2), some (.int a3), some (zr g v8), none] ⟨rfl, ⟨rfl, ⟨rfl, trivial⟩⟩⟩ ?_
      exact hj12 0
    refine zj_iconst 1 d_X_bar_46 (by decide) ?_
    refine zj_goto 51 d_X_bar_47 rfl ?_
    refine zj_cut [none, none, some (.int a2), some (.int a3), some (zr g v8), none] ⟨rfl, ⟨rfl, ⟨rfl, trivial⟩⟩⟩ ?_
    exact hj12 1
  refine zj_bipush (-2) d_X_bar_26 (by decide) ?_
  exact zj_iret rfl rfl rfl rfl d_X_bar_28
def F_X_bounded (u0 : zS) (a1 : Int32) (a2 : Int32) (a3 : Int32) : Option (Int32) := some (zmax a2 (zmin a3 a1))
set_option maxHeartbeats 4000000 in
set_option maxRecDepth 100000 in
theorem B_X_bounded (g : zG) (d : Nat) {u0 : zS} {a1 : Int32} {a2 : Int32} {a3 : Int32} {o : Int32} (h : F_X_bounded u0 a1 a2 a3 = some o) : zMt g zy_X_bounded (d + 2) 0 0 [.int a1, .int a2, .int a3] u0 (some (.int o)) u0 := by
  refine zMt_of2 (ls := [some (.int a1), some (.int a2), some (.int a3)]) 0 (by decide +kernel) (by simp [lg_sl, zr_cat, zcI, zcJ]) (by simp [zal, zr_cat, zcI, zcJ, List.replicate]) ?_
  revert h
  show zJ g zy_X_bounded (d + 2) 0 0 (zwIp u0) o 0 0 0 [some (.int a1), some (.int a2), some (.int a3)] [] u0 (F_X_bounded u0 a1 a2 a3)
  unfold F_X_bounded
  refine zj_iload_n d_X_bounded_0 rfl ?_
  refine zj_iload_n d_X_bounded_1 rfl ?_
  refine zj_iload_n d_X_bounded_2 rfl ?_
  refine zj_mmin mtl_X_264 mts_min mti_ mtc_min (by omega) ⟨Nat.zero_le _, Nat.zero_le _⟩ (by simp [zr_cat, zcI, zcJ]) d_X_bounded_3 ?_
  refine zj_mmax mtl_X_259 mts_max mti_ mtc_max (by omega) ⟨Nat.zero_le _, Nat.zero_le _⟩ (by decide) d_X_bounded_6 ?_
  exact zj_iret rfl rfl rfl rfl d_X_bounded_9
def F_X_copy (u0 : zS) (this : Nat) (a1 : Int32) (a2 : Int32) (a3 : Int32) (a4 : Int32) (a5 : Int32) : Option (Int32 × zS) := (F_X_isSheet u0 a1).bind fun v1 => if v1 = 0 then (some ((-2), u0)) else ((F_X_isSheet u0 a3).bind fun v2 => if v2 = 0 then (some ((-2), u0)) else ((zgR u0 8 (some this) 11).bind fun v3 => (zaR u0 "PostsFilled$Sheet" v3 a1).bind fun v4 => (zgR u0 8 (some this) 11).bind fun v5 => (zaR u0 "PostsFilled$Sheet" v5 a3).bind fun v6 => (zob u0 6 v4).bind fun q8 => (F_Sheet_isMissing u0 q8 ).bind fun v7 => if v7 = 0 then ((zob u0 6 v6).bind fun q10 => (F_Sheet_isMissing u0 q10 ).bind fun v9 => if v9 = 0 then ((zgI u0 6 v4 0).bind fun v11 => (zgI u0 6 v6 0).bind fun v12 => if v11 = v12 then ((zob u0 6 v4).bind fun q14 => (F_Sheet_hasRun u0 q14 a2 a5).bind fun v13 => if v13 = 0 then (some ((-12), u0)) else ((zob u0 6 v6).bind fun q16 => (F_Sheet_hasRun u0 q16 a4 a5).bind fun v15 => if v15 = 0 then (some ((-12), u0)) else ((zgR u0 6 v4 2).bind fun v17 => (zgR u0 6 v6 2).bind fun v18 => (zcp u0 v17 a2 v18 a4 a5).bind fun u19 => some (a5, u19)))) else (some ((-13), u0))) else (some ((-11), u0))) else (some ((-11), u0))))
set_option maxHeartbeats 4000000 in
set_option maxRecDepth 100000 in
theorem B_X_copy (g : zG) (d : Nat) {u0 : zS} {this : Nat} {a1 : Int32} {a2 : Int32} {a3 : Int32} {a4 : Int32} {a5 : Int32} {o : Int32 × zS} (h : F_X_copy u0 this a1 a2 a3 a4 a5 = some o) : zMt g zy_X_copy (d + 2) 0 0 [zr g (some this), .int a1, .int a2, .int a3, .int a4, .int a5] u0 (some (.int o.1)) o.2 := by
  refine zMt_of2 (ls := [some (zr g (some this)), some (.int a1), some (.int a2), some (.int a3), some (.int a4), some (.int a5), none, none]) 2 (by decide +kernel) (by simp [lg_sl, zr_cat, zcI, zcJ]) (by simp [zal, zr_cat, zcI, zcJ, List.replicate]) ?_
  revert h
  show zJ g zy_X_copy (d + 2) 0 0 zwI o 0 0 0 [some (zr g (some this)), some (.int a1), some (.int a2), some (.int a3), some (.int a4), some (.int a5), none, none] [] u0 (F_X_copy u0 this a1 a2 a3 a4 a5)
  unfold F_X_copy
  refine zj_iload_n d_X_copy_0 rfl ?_
  refine zj_cSIp [.int a1] zm_S_X_isSheet ml_X_277 (fun _ h => B_X_isSheet g (d) h) (Nat.le_refl _) ⟨Nat.zero_le _, Nat.zero_le _⟩ rfl rfl (by decide) d_X_copy_1 (fun v1 => ?_)
  refine zj_if_eq 14 d_X_copy_4 rfl (fun _ => ?_) (fun _ => ?_)
  · refine zj_bipush (-2) d_X_copy_14 (by decide) ?_
    exact zj_iret rfl rfl rfl rfl d_X_copy_16
  refine zj_iload_n d_X_copy_7 rfl ?_
  refine zj_cSIp [.int a3] zm_S_X_isSheet ml_X_277 (fun _ h => B_X_isSheet g (d) h) (Nat.le_refl _) ⟨Nat.zero_le _, Nat.zero_le _⟩ rfl rfl (by decide) d_X_copy_8 (fun v2 => ?_)
  refine zj_if_ne 17 d_X_copy_11 rfl (fun _ => ?_) (fun _ => ?_)
  · refine zj_aload_n d_X_copy_17 rfl ?_
    refine zj_getR fl_X_65 (fun _ _ _ _ => rfl) d_X_copy_18 (fun v3 => ?_)
    refine zj_iload_n d_X_copy_21 rfl ?_
    refine zj_aaload 6 rfl d_X_copy_22 (fun v4 => ?_)
    refine zj_astore [some (zr g (some this)), some (.int a1), some (.int a2), some (.int a3), some (.int a4), some (.int a5), some (zr g v4), none] d_X_copy_23 (by decide) rfl rfl ?_
    refine zj_aload_n d_X_copy_25 rfl ?_
    refine zj_getR fl_X_65 (fun _ _ _ _ => rfl) d_X_copy_26 (fun v5 => ?_)
    refine zj_iload_n d_X_copy_29 rfl ?_
    refine zj_aaload 6 rfl d_X_copy_30 (fun v6 => ?_)
    refine zj_astore [some (zr g (some this)), some (.int a1), some (.int a2), some (.int a3), some (.int a4), some (.int a5), some (zr g v4), some (zr g v6)] d_X_copy_31 (by decide) (by simp [zNL, zr_cat]) rfl ?_
    refine zj_aload d_X_copy_33 rfl ?_
    refine zj_cVIp (ci := 6) (T := zT6) (N := 3) [] zm_V_Sheet_isMissing ml_X_280 rfl (fun _ _ h => B_Sheet_isMissing g (d) h) (Nat.le_refl _) ⟨Nat.zero_le _, Nat.zero_le _⟩ rfl rfl (by decide) d_X_copy_35 (fun v7 => ?_)
    refine zj_if_ne 49 d_X_copy_38 rfl (fun _ => ?_) (fun _ => ?_)
    · refine zj_bipush (-11) d_X_copy_49 (by decide) ?_
      exact zj_iret rfl rfl rfl rfl d_X_copy_51
    refine zj_aload d_X_copy_41 rfl ?_
    refine zj_cVIp (ci := 6) (T := zT6) (N := 3) [] zm_V_Sheet_isMissing ml_X_280 rfl (fun _ _ h => B_Sheet_isMissing g (d) h) (Nat.le_refl _) ⟨Nat.zero_le _, Nat.zero_le _⟩ rfl rfl (by decide) d_X_copy_43 (fun v9 => ?_)
    refine zj_if_eq 52 d_X_copy_46 rfl (fun _ => ?_) (fun _ => ?_)
    · refine zj_aload d_X_copy_52 rfl ?_
      refine zj_getI fl_X_316 (fun _ _ _ _ => rfl) d_X_copy_54 (fun v11 => ?_)
      refine zj_aload d_X_copy_57 rfl ?_
      refine zj_getI fl_X_316 (fun _ _ _ _ => rfl) d_X_copy_59 (fun v12 => ?_)
      refine zj_icmp_eq 68 d_X_copy_62 rfl (fun _ => ?_) (fun _ => ?_)
      · refine zj_aload d_X_copy_68 rfl ?_
        refine zj_iload_n d_X_copy_70 rfl ?_
        refine zj_iload d_X_copy_71 rfl ?_
        refine zj_cVIp (ci := 6) (T := zT6) (N := 3) [.int a2, .int a5] zm_V_Sheet_hasRun ml_X_319 rfl (fun _ _ h => B_Sheet_hasRun g (d) h) (Nat.le_refl _) ⟨Nat.zero_le _, Nat.zero_le _⟩ rfl rfl (by decide) d_X_copy_73 (fun v13 => ?_)
        refine zj_if_eq 91 d_X_copy_76 rfl (fun _ => ?_) (fun _ => ?_)
        · refine zj_bipush (-12) d_X_copy_91 (by decide) ?_
          exact zj_iret rfl rfl rfl rfl d_X_copy_93
        refine zj_aload d_X_copy_79 rfl ?_
        refine zj_iload d_X_copy_81 rfl ?_
        refine zj_iload d_X_copy_83 rfl ?_
        refine zj_cVIp (ci := 6) (T := zT6) (N := 3) [.int a4, .int a5] zm_V_Sheet_hasRun ml_X_319 rfl (fun _ _ h => B_Sheet_hasRun g (d) h) (Nat.le_refl _) ⟨Nat.zero_le _, Nat.zero_le _⟩ rfl rfl (by decide) d_X_copy_85 (fun v15 => ?_)
        refine zj_if_ne 94 d_X_copy_88 rfl (fun _ => ?_) (fun _ => ?_)
        · refine zj_aload d_X_copy_94 rfl ?_
          refine zj_getR fl_X_285 (fun _ _ _ _ => rfl) d_X_copy_96 (fun v17 => ?_)
          refine zj_iload_n d_X_copy_99 rfl ?_
          refine zj_aload d_X_copy_100 rfl ?_
          refine zj_getR fl_X_285 (fun _ _ _ _ => rfl) d_X_copy_102 (fun v18 => ?_)
          refine zj_iload d_X_copy_105 rfl ?_
          refine zj_iload d_X_copy_107 rfl ?_
          refine zj_acopy ap_X_322 ap_n ap_s ap_i (by omega) (by decide) d_X_copy_109 (fun u19 => ?_)
          refine zj_iload d_X_copy_112 rfl ?_
          exact zj_iret rfl rfl rfl rfl d_X_copy_114
        refine zj_bipush (-12) d_X_copy_91 (by decide) ?_
        exact zj_iret rfl rfl rfl rfl d_X_copy_93
      refine zj_bipush (-13) d_X_copy_65 (by decide) ?_
      exact zj_iret rfl rfl rfl rfl d_X_copy_67
    refine zj_bipush (-11) d_X_copy_49 (by decide) ?_
    exact zj_iret rfl rfl rfl rfl d_X_copy_51
  refine zj_bipush (-2) d_X_copy_14 (by decide) ?_
  exact zj_iret rfl rfl rfl rfl d_X_copy_16
def F_X_even (u0 : zS) (this : Nat) : Option (Int32) := (zgI u0 8 (some this) 2).bind fun v1 => if v1 = 0 then (some (-1)) else ((zgR u0 8 (some this) 1).bind fun v2 => (zaR u0 "PostsFilled$Person" v2 0).bind fun v3 => (zgI u0 3 v3 4).bind fun v4 => (zgR u0 8 (some this) 1).bind fun v5 => (zaR u0 "PostsFilled$Person" v5 0).bind fun v6 => (zgI u0 3 v6 4).bind fun v7 => zfix3 (fun (r8 : Int32 → Int32 → Int32 → Option (Int32)) (x9 : Int32) (x10 : Int32) (x11 : Int32) => (zgI u0 8 (some this) 2).bind fun v12 => if v12 ≤ x11 then (some (x9 - x10)) else ((zgR u0 8 (some this) 1).bind fun v13 => (zaR u0 "PostsFilled$Person" v13 x11).bind fun v14 => (zgI u0 3 v14 4).bind fun v15 => (zgR u0 8 (some this) 1).bind fun v16 => (zaR u0 "PostsFilled$Person" v16 x11).bind fun v17 => (zgI u0 3 v17 4).bind fun v18 => r8 (zmax x9 v15) (zmin x10 v18) (x11 + 1))) zFU v4 v7 1)
set_option maxHeartbeats 4000000 in
set_option maxRecDepth 100000 in
theorem B_X_even (g : zG) (d : Nat) {u0 : zS} {this : Nat} {o : Int32} (h : F_X_even u0 this = some o) : zMt g zy_X_even (d + 2) 0 0 [zr g (some this)] u0 (some (.int o)) u0 := by
  refine zMt_of2 (ls := [some (zr g (some this)), none, none, none]) 3 (by decide +kernel) (by simp [lg_sl, zr_cat, zcI, zcJ]) (by simp [zal, zr_cat, zcI, zcJ, List.replicate]) ?_
  revert h
  show zJ g zy_X_even (d + 2) 0 0 (zwIp u0) o 0 0 0 [some (zr g (some this)), none, none, none] [] u0 (F_X_even u0 this)
  unfold F_X_even
  refine zj_aload_n d_X_even_0 rfl ?_
  refine zj_getI fl_X_22 (fun _ _ _ _ => rfl) d_X_even_1 (fun v1 => ?_)
  refine zj_if_ne 9 d_X_even_4 rfl (fun _ => ?_) (fun _ => ?_)
  · refine zj_aload_n d_X_even_9 rfl ?_
    refine zj_getR fl_X_18 (fun _ _ _ _ => rfl) d_X_even_10 (fun v2 => ?_)
    refine zj_iconst 0 d_X_even_13 (by decide) ?_
    refine zj_aaload 4 rfl d_X_even_14 (fun v3 => ?_)
    refine zj_getI fl_X_167 (fun _ _ _ _ => rfl) d_X_even_15 (fun v4 => ?_)
    refine zj_istore_n [some (zr g (some this)), some (.int v4), none, none] d_X_even_18 (by decide) rfl rfl ?_
    refine zj_aload_n d_X_even_19 rfl ?_
    refine zj_getR fl_X_18 (fun _ _ _ _ => rfl) d_X_even_20 (fun v5 => ?_)
    refine zj_iconst 0 d_X_even_23 (by decide) ?_
    refine zj_aaload 4 rfl d_X_even_24 (fun v6 => ?_)
    refine zj_getI fl_X_167 (fun _ _ _ _ => rfl) d_X_even_25 (fun v7 => ?_)
    refine zj_istore_n [some (zr g (some this)), some (.int v4), some (.int v7), none] d_X_even_28 (by decide) rfl rfl ?_
    refine zj_iconst 1 d_X_even_29 (by decide) ?_
    refine zj_istore_n [some (zr g (some this)), some (.int v4), some (.int v7), some (.int 1)] d_X_even_30 (by decide) rfl rfl ?_
    refine zj_fix3 (fun x9 x10 x11 => [some (zr g (some this)), some (.int x9), some (.int x10), some (.int x11)]) (fun x9 x10 x11 => u0) (fun r8 hr8 x9 x10 x11 => ?_) v4 v7 1
    refine zj_iload_n d_X_even_31 rfl ?_
    refine zj_aload_n d_X_even_32 rfl ?_
    refine zj_getI fl_X_22 (fun _ _ _ _ => rfl) d_X_even_33 (fun v12 => ?_)
    refine zj_icmp_ge 73 d_X_even_36 rfl (fun _ => ?_) (fun _ => ?_)
    · refine zj_iload_n d_X_even_73 rfl ?_
      refine zj_iload_n d_X_even_74 rfl ?_
      refine zj_isub d_X_even_75 ?_
      exact zj_iret rfl rfl rfl rfl d_X_even_76
    refine zj_iload_n d_X_even_39 rfl ?_
    refine zj_aload_n d_X_even_40 rfl ?_
    refine zj_getR fl_X_18 (fun _ _ _ _ => rfl) d_X_even_41 (fun v13 => ?_)
    refine zj_iload_n d_X_even_44 rfl ?_
    refine zj_aaload 4 rfl d_X_even_45 (fun v14 => ?_)
    refine zj_getI fl_X_167 (fun _ _ _ _ => rfl) d_X_even_46 (fun v15 => ?_)
    refine zj_mmax mtl_X_259 mts_max mti_ mtc_max (by omega) ⟨Nat.zero_le _, Nat.zero_le _⟩ (by decide) d_X_even_49 ?_
    refine zj_istore_n [some (zr g (some this)), some (.int (zmax x9 v15)), some (.int x10), some (.int x11)] d_X_even_52 (by decide) rfl rfl ?_
    refine zj_iload_n d_X_even_53 rfl ?_
    refine zj_aload_n d_X_even_54 rfl ?_
    refine zj_getR fl_X_18 (fun _ _ _ _ => rfl) d_X_even_55 (fun v16 => ?_)
    refine zj_iload_n d_X_even_58 rfl ?_
    refine zj_aaload 4 rfl d_X_even_59 (fun v17 => ?_)
    refine zj_getI fl_X_167 (fun _ _ _ _ => rfl) d_X_even_60 (fun v18 => ?_)
    refine zj_mmin mtl_X_264 mts_min mti_ mtc_min (by omega) ⟨Nat.zero_le _, Nat.zero_le _⟩ (by decide) d_X_even_63 ?_
    refine zj_istore_n [some (zr g (some this)), some (.int (zmax x9 v15)), some (.int (zmin x10 v18)), some (.int x11)] d_X_even_66 (by decide) rfl rfl ?_
    refine zj_iinc (v := (x11 + 1)) [some (zr g (some this)), some (.int (zmax x9 v15)), some (.int (zmin x10 v18)), some (.int (x11 + 1))] d_X_even_67 rfl rfl (by decide) rfl rfl ?_
    refine zj_goto 31 d_X_even_70 rfl ?_
    exact hr8 (zmax x9 v15) (zmin x10 v18) (x11 + 1)
  refine zj_iconst (-1) d_X_even_7 (by decide) ?_
  exact zj_iret rfl rfl rfl rfl d_X_even_8
def F_X_feed (u0 : zS) (this : Nat) (a1 : Int32) (a2 : Int64) : Option (Int32 × zS) := if a1 < 1 then (some ((-2), u0)) else (if a1 ≤ 8 then ((zgR u0 8 (some this) 3).bind fun v1 => (zgI u0 5 v1 0).bind fun v2 => if (v2 + a1) ≤ 160 then (zfix2 (fun (r3 : zS → Int32 → Option (Int32 × zS)) (u4 : zS) (x5 : Int32) => if a1 ≤ x5 then ((zgR u4 8 (some this) 3).bind fun v6 => (zgI u4 5 v6 0).bind fun v7 => some (v7, u4)) else ((zgR u4 8 (some this) 3).bind fun v8 => (zob u4 5 v8).bind fun q11 => (F_Reader_take u4 q11 (((((a2 : Int64).toUInt64 >>> ((((8 : Int32) * x5) : Int32).toInt64.toUInt64 &&& Int64.toUInt64 63)).toInt64 : Int64).toInt32) &&& 255)).bind fun u10 => r3 u10 (x5 + 1))) zFU u0 0) else (some ((-4), u0))) else (some ((-2), u0)))
set_option maxHeartbeats 4000000 in
set_option maxRecDepth 100000 in
theorem B_X_feed (g : zG) (d : Nat) {u0 : zS} {this : Nat} {a1 : Int32} {a2 : Int64} {o : Int32 × zS} (h : F_X_feed u0 this a1 a2 = some o) : zMt g zy_X_feed (d + 2) 0 0 [zr g (some this), .int a1, .long a2] u0 (some (.int o.1)) o.2 := by
  refine zMt_of2 (ls := [some (zr g (some this)), some (.int a1), some (.long a2), none, none]) 1 (by decide +kernel) (by simp [lg_sl, zr_cat, zcI, zcJ]) (by simp [zal, zr_cat, zcI, zcJ, List.replicate]) ?_
  revert h
  show zJ g zy_X_feed (d + 2) 0 0 zwI o 0 0 0 [some (zr g (some this)), some (.int a1), some (.long a2), none, none] [] u0 (F_X_feed u0 this a1 a2)
  unfold F_X_feed
  refine zj_iload_n d_X_feed_0 rfl ?_
  refine zj_iconst 1 d_X_feed_1 (by decide) ?_
  refine zj_icmp_lt 11 d_X_feed_2 rfl (fun _ => ?_) (fun _ => ?_)
  · refine zj_bipush (-2) d_X_feed_11 (by decide) ?_
    exact zj_iret rfl rfl rfl rfl d_X_feed_13
  refine zj_iload_n d_X_feed_5 rfl ?_
  refine zj_bipush 8 d_X_feed_6 (by decide) ?_
  refine zj_icmp_le 14 d_X_feed_8 rfl (fun _ => ?_) (fun _ => ?_)
  · refine zj_aload_n d_X_feed_14 rfl ?_
    refine zj_getR fl_X_90 (fun _ _ _ _ => rfl) d_X_feed_15 (fun v1 => ?_)
    refine zj_getI fl_X_181 (fun _ _ _ _ => rfl) d_X_feed_18 (fun v2 => ?_)
    refine zj_iload_n d_X_feed_21 rfl ?_
    refine zj_iadd d_X_feed_22 ?_
    refine zj_sipush 160 d_X_feed_23 (by decide) ?_
    refine zj_icmp_le 32 d_X_feed_26 rfl (fun _ => ?_) (fun _ => ?_)
    · refine zj_iconst 0 d_X_feed_32 (by decide) ?_
      refine zj_istore [some (zr g (some this)), some (.int a1), some (.long a2), none, some (.int 0)] d_X_feed_33 (by decide) rfl rfl ?_
      refine zj_fix2 (fun u4 x5 => [some (zr g (some this)), some (.int a1), some (.long a2), none, some (.int x5)]) (fun u4 x5 => u4) (fun r3 hr3 u4 x5 => ?_) u0 0
      refine zj_iload d_X_feed_35 rfl ?_
      refine zj_iload_n d_X_feed_37 rfl ?_
      refine zj_icmp_ge 66 d_X_feed_38 rfl (fun _ => ?_) (fun _ => ?_)
      · refine zj_aload_n d_X_feed_66 rfl ?_
        refine zj_getR fl_X_90 (fun _ _ _ _ => rfl) d_X_feed_67 (fun v6 => ?_)
        refine zj_getI fl_X_181 (fun _ _ _ _ => rfl) d_X_feed_70 (fun v7 => ?_)
        exact zj_iret rfl rfl rfl rfl d_X_feed_73
      refine zj_aload_n d_X_feed_41 rfl ?_
      refine zj_getR fl_X_90 (fun _ _ _ _ => rfl) d_X_feed_42 (fun v8 => ?_)
      refine zj_lload_n d_X_feed_45 rfl ?_
      refine zj_bipush 8 d_X_feed_46 (by decide) ?_
      refine zj_iload d_X_feed_48 rfl ?_
      refine zj_imul d_X_feed_50 ?_
      refine zj_lushr d_X_feed_51 ?_
      refine zj_l2i d_X_feed_52 ?_
      refine zj_sipush 255 d_X_feed_53 (by decide) ?_
      refine zj_iand d_X_feed_56 ?_
      refine zj_cVU (ci := 5) (T := zT5) (N := 8) [.int (((((a2 : Int64).toUInt64 >>> ((((8 : Int32) * x5) : Int32).toInt64.toUInt64 &&& Int64.toUInt64 63)).toInt64 : Int64).toInt32) &&& 255)] zm_V_Reader_take ml_X_106 rfl (fun _ _ h => B_Reader_take g (d) h) (Nat.le_refl _) ⟨Nat.zero_le _, Nat.zero_le _⟩ rfl rfl (by decide) d_X_feed_57 (fun u10 => ?_)
      refine zj_iinc (v := (x5 + 1)) [some (zr g (some this)), some (.int a1), some (.long a2), none, some (.int (x5 + 1))] d_X_feed_60 rfl rfl (by decide) rfl rfl ?_
      refine zj_goto 35 d_X_feed_63 rfl ?_
      exact hr3 u10 (x5 + 1)
    refine zj_bipush (-4) d_X_feed_29 (by decide) ?_
    exact zj_iret rfl rfl rfl rfl d_X_feed_31
  refine zj_bipush (-2) d_X_feed_11 (by decide) ?_
  exact zj_iret rfl rfl rfl rfl d_X_feed_13
def F_X_hire (u0 : zS) (this : Nat) (a1 : Int32) (a2 : Int32) : Option (Int32 × zS) := if a1 < 0 then (some ((-2), u0)) else (if 6 ≤ a1 then (some ((-2), u0)) else (if a2 < 0 then (some ((-2), u0)) else ((zgR u0 8 (some this) 0).bind fun v1 => (zob u0 2 v1).bind fun q3 => (F_Office_has u0 q3 (a2 / 100)).bind fun v2 => if v2 = 0 then (some ((-2), u0)) else ((zgI u0 8 (some this) 2).bind fun v4 => if v4 < 7 then ((zgR u0 8 (some this) 1).bind fun v5 => (zgI u0 8 (some this) 2).bind fun v6 => (zaR u0 "PostsFilled$Person" v5 v6).bind fun v7 => (zob u0 3 v7).bind fun q10 => (F_Person_become u0 q10 a1 (a2 / 100) ((a2 / 10) - (a2 / 10) / 10 * 10) (a2 - a2 / 10 * 10)).bind fun u9 => (zgI u9 8 (some this) 2).bind fun v11 => (zpI u9 8 (some this) 2 (v11 + 1)).bind fun u12 => (zgI u12 8 (some this) 2).bind fun v13 => some ((v13 - 1), u12)) else (some ((-4), u0))))))
set_option maxHeartbeats 4000000 in
set_option maxRecDepth 100000 in
theorem B_X_hire (g : zG) (d : Nat) {u0 : zS} {this : Nat} {a1 : Int32} {a2 : Int32} {o : Int32 × zS} (h : F_X_hire u0 this a1 a2 = some o) : zMt g zy_X_hire (d + 2) 0 0 [zr g (some this), .int a1, .int a2] u0 (some (.int o.1)) o.2 := by
  refine zMt_of2 (ls := [some (zr g (some this)), some (.int a1), some (.int a2)]) 0 (by decide +kernel) (by simp [lg_sl, zr_cat, zcI, zcJ]) (by simp [zal, zr_cat, zcI, zcJ, List.replicate]) ?_
  revert h
  show zJ g zy_X_hire (d + 2) 0 0 zwI o 0 0 0 [some (zr g (some this)), some (.int a1), some (.int a2)] [] u0 (F_X_hire u0 this a1 a2)
  unfold F_X_hire
  refine zj_iload_n d_X_hire_0 rfl ?_
  refine zj_if_lt 28 d_X_hire_1 rfl (fun _ => ?_) (fun _ => ?_)
  · refine zj_bipush (-2) d_X_hire_28 (by decide) ?_
    exact zj_iret rfl rfl rfl rfl d_X_hire_30
  refine zj_iload_n d_X_hire_4 rfl ?_
  refine zj_bipush 6 d_X_hire_5 (by decide) ?_
  refine zj_icmp_ge 28 d_X_hire_7 rfl (fun _ => ?_) (fun _ => ?_)
  · refine zj_bipush (-2) d_X_hire_28 (by decide) ?_
    exact zj_iret rfl rfl rfl rfl d_X_hire_30
  refine zj_iload_n d_X_hire_10 rfl ?_
  refine zj_if_lt 28 d_X_hire_11 rfl (fun _ => ?_) (fun _ => ?_)
  · refine zj_bipush (-2) d_X_hire_28 (by decide) ?_
    exact zj_iret rfl rfl rfl rfl d_X_hire_30
  refine zj_aload_n d_X_hire_14 rfl ?_
  refine zj_getR fl_X_10 (fun _ _ _ _ => rfl) d_X_hire_15 (fun v1 => ?_)
  refine zj_iload_n d_X_hire_18 rfl ?_
  refine zj_bipush 100 d_X_hire_19 (by decide) ?_
  refine zj_idiv d_X_hire_21 (by decide) ?_
  refine zj_cVIp (ci := 2) (T := zT2) (N := 4) [.int (a2 / 100)] zm_V_Office_has ml_X_132 rfl (fun _ _ h => B_Office_has g (d) h) (Nat.le_refl _) ⟨Nat.zero_le _, Nat.zero_le _⟩ rfl rfl (by decide) d_X_hire_22 (fun v2 => ?_)
  refine zj_if_ne 31 d_X_hire_25 rfl (fun _ => ?_) (fun _ => ?_)
  · refine zj_aload_n d_X_hire_31 rfl ?_
    refine zj_getI fl_X_22 (fun _ _ _ _ => rfl) d_X_hire_32 (fun v4 => ?_)
    refine zj_bipush 7 d_X_hire_35 (by decide) ?_
    refine zj_icmp_lt 43 d_X_hire_37 rfl (fun _ => ?_) (fun _ => ?_)
    · refine zj_aload_n d_X_hire_43 rfl ?_
      refine zj_getR fl_X_18 (fun _ _ _ _ => rfl) d_X_hire_44 (fun v5 => ?_)
      refine zj_aload_n d_X_hire_47 rfl ?_
      refine zj_getI fl_X_22 (fun _ _ _ _ => rfl) d_X_hire_48 (fun v6 => ?_)
      refine zj_aaload 4 rfl d_X_hire_51 (fun v7 => ?_)
      refine zj_iload_n d_X_hire_52 rfl ?_
      refine zj_iload_n d_X_hire_53 rfl ?_
      refine zj_bipush 100 d_X_hire_54 (by decide) ?_
      refine zj_idiv d_X_hire_56 (by decide) ?_
      refine zj_iload_n d_X_hire_57 rfl ?_
      refine zj_bipush 10 d_X_hire_58 (by decide) ?_
      refine zj_idiv d_X_hire_60 (by decide) ?_
      refine zj_bipush 10 d_X_hire_61 (by decide) ?_
      refine zj_irem d_X_hire_63 (by decide) ?_
      refine zj_iload_n d_X_hire_64 rfl ?_
      refine zj_bipush 10 d_X_hire_65 (by decide) ?_
      refine zj_irem d_X_hire_67 (by decide) ?_
      refine zj_cVU (ci := 3) (T := zT3) (N := 10) [.int a1, .int (a2 / 100), .int ((a2 / 10) - (a2 / 10) / 10 * 10), .int (a2 - a2 / 10 * 10)] zm_V_Person_become ml_X_331 rfl (fun _ _ h => B_Person_become g (d) h) (Nat.le_refl _) ⟨Nat.zero_le _, Nat.zero_le _⟩ rfl rfl (by decide) d_X_hire_68 (fun u9 => ?_)
      refine zj_aload_n d_X_hire_71 rfl ?_
      refine zj_dup d_X_hire_72 (zr_cat _ _) ?_
      refine zj_getI fl_X_22 (fun _ _ _ _ => rfl) d_X_hire_73 (fun v11 => ?_)
      refine zj_iconst 1 d_X_hire_76 (by decide) ?_
      refine zj_iadd d_X_hire_77 ?_
      refine zj_putI fl_X_22 (fun _ _ _ _ => rfl) ⟨rfl, rfl⟩ d_X_hire_78 (fun u12 => ?_)
      refine zj_aload_n d_X_hire_81 rfl ?_
      refine zj_getI fl_X_22 (fun _ _ _ _ => rfl) d_X_hire_82 (fun v13 => ?_)
      refine zj_iconst 1 d_X_hire_85 (by decide) ?_
      refine zj_isub d_X_hire_86 ?_
      exact zj_iret rfl rfl rfl rfl d_X_hire_87
    refine zj_bipush (-4) d_X_hire_40 (by decide) ?_
    exact zj_iret rfl rfl rfl rfl d_X_hire_42
  refine zj_bipush (-2) d_X_hire_28 (by decide) ?_
  exact zj_iret rfl rfl rfl rfl d_X_hire_30
def F_X_isCrewSet (u0 : zS) (this : Nat) (a1 : Int32) : Option (Int32) := if a1 < 0 then (some 0) else ((zob u0 8 (some this)).bind fun q2 => (F_X_everyone u0 q2 ).bind fun v1 => if v1 < a1 then (some 0) else (some 1))
set_option maxHeartbeats 4000000 in
set_option maxRecDepth 100000 in
theorem B_X_isCrewSet (g : zG) (d : Nat) {u0 : zS} {this : Nat} {a1 : Int32} {o : Int32} (h : F_X_isCrewSet u0 this a1 = some o) : zMt g zy_X_isCrewSet (d + 2) 0 0 [zr g (some this), .int a1] u0 (some (.int o)) u0 := by
  refine zMt_of2 (ls := [some (zr g (some this)), some (.int a1)]) 0 (by decide +kernel) (by simp [lg_sl, zr_cat, zcI, zcJ]) (by simp [zal, zr_cat, zcI, zcJ, List.replicate]) ?_
  revert h
  show zJ g zy_X_isCrewSet (d + 2) 0 0 (zwIp u0) o 0 0 0 [some (zr g (some this)), some (.int a1)] [] u0 (F_X_isCrewSet u0 this a1)
  unfold F_X_isCrewSet
  refine zj_iload_n d_X_isCrewSet_0 rfl ?_
  refine zj_if_lt 16 d_X_isCrewSet_1 rfl (fun _ => ?_) (fun _ => ?_)
  · refine zj_iconst 0 d_X_isCrewSet_16 (by decide) ?_
    exact zj_zretL (by decide) rfl rfl rfl rfl d_X_isCrewSet_17
  refine zj_iload_n d_X_isCrewSet_4 rfl ?_
  refine zj_aload_n d_X_isCrewSet_5 rfl ?_
  refine zj_cVIp (ci := 8) (T := zT8) (N := 16) [] zm_V_X_everyone ml_X_197 rfl (fun _ _ h => B_X_everyone g (d) h) (Nat.le_refl _) ⟨Nat.zero_le _, Nat.zero_le _⟩ rfl rfl (by simp [zcI, zcJ]) d_X_isCrewSet_6 (fun v1 => ?_)
  refine zj_icmp_gt 16 d_X_isCrewSet_9 rfl (fun _ => ?_) (fun _ => ?_)
  · refine zj_iconst 0 d_X_isCrewSet_16 (by decide) ?_
    exact zj_zretL (by decide) rfl rfl rfl rfl d_X_isCrewSet_17
  refine zj_iconst 1 d_X_isCrewSet_12 (by decide) ?_
  refine zj_goto 17 d_X_isCrewSet_13 rfl ?_
  exact zj_zretL (by decide) rfl rfl rfl rfl d_X_isCrewSet_17
def F_X_lessonsOfAll (u0 : zS) (this : Nat) : Option (Int32) := zfix2 (fun (r1 : Int32 → Int32 → Option (Int32)) (x2 : Int32) (x3 : Int32) => (zgI u0 8 (some this) 2).bind fun v4 => if v4 ≤ x3 then (some x2) else ((zgR u0 8 (some this) 1).bind fun v5 => (zaR u0 "PostsFilled$Person" v5 x3).bind fun v6 => (zob u0 3 v6).bind fun q8 => (F_Person_lessonsHad u0 q8 ).bind fun v7 => r1 (x2 + v7) (x3 + 1))) zFU 0 0
set_option maxHeartbeats 4000000 in
set_option maxRecDepth 100000 in
theorem B_X_lessonsOfAll (g : zG) (d : Nat) {u0 : zS} {this : Nat} {o : Int32} (h : F_X_lessonsOfAll u0 this = some o) : zMt g zy_X_lessonsOfAll (d + 2) 0 0 [zr g (some this)] u0 (some (.int o)) u0 := by
  refine zMt_of2 (ls := [some (zr g (some this)), none, none]) 2 (by decide +kernel) (by simp [lg_sl, zr_cat, zcI, zcJ]) (by simp [zal, zr_cat, zcI, zcJ, List.replicate]) ?_
  revert h
  show zJ g zy_X_lessonsOfAll (d + 2) 0 0 (zwIp u0) o 0 0 0 [some (zr g (some this)), none, none] [] u0 (F_X_lessonsOfAll u0 this)
  unfold F_X_lessonsOfAll
  refine zj_iconst 0 d_X_lessonsOfAll_0 (by decide) ?_
  refine zj_istore_n [some (zr g (some this)), some (.int 0), none] d_X_lessonsOfAll_1 (by decide) rfl rfl ?_
  refine zj_iconst 0 d_X_lessonsOfAll_2 (by decide) ?_
  refine zj_istore_n [some (zr g (some this)), some (.int 0), some (.int 0)] d_X_lessonsOfAll_3 (by decide) rfl rfl ?_
  refine zj_fix2 (fun x2 x3 => [some (zr g (some this)), some (.int x2), some (.int x3)]) (fun x2 x3 => u0) (fun r1 hr1 x2 x3 => ?_) 0 0
  refine zj_iload_n d_X_lessonsOfAll_4 rfl ?_
  refine zj_aload_n d_X_lessonsOfAll_5 rfl ?_
  refine zj_getI fl_X_22 (fun _ _ _ _ => rfl) d_X_lessonsOfAll_6 (fun v4 => ?_)
  refine zj_icmp_ge 30 d_X_lessonsOfAll_9 rfl (fun _ => ?_) (fun _ => ?_)
  · refine zj_iload_n d_X_lessonsOfAll_30 rfl ?_
    exact zj_iret rfl rfl rfl rfl d_X_lessonsOfAll_31
  refine zj_iload_n d_X_lessonsOfAll_12 rfl ?_
  refine zj_aload_n d_X_lessonsOfAll_13 rfl ?_
  refine zj_getR fl_X_18 (fun _ _ _ _ => rfl) d_X_lessonsOfAll_14 (fun v5 => ?_)
  refine zj_iload_n d_X_lessonsOfAll_17 rfl ?_
  refine zj_aaload 4 rfl d_X_lessonsOfAll_18 (fun v6 => ?_)
  refine zj_cVIp (ci := 3) (T := zT3) (N := 10) [] zm_V_Person_lessonsHad ml_X_144 rfl (fun _ _ h => B_Person_lessonsHad g (d) h) (Nat.le_refl _) ⟨Nat.zero_le _, Nat.zero_le _⟩ rfl rfl (by simp [zcI, zcJ]) d_X_lessonsOfAll_19 (fun v7 => ?_)
  refine zj_iadd d_X_lessonsOfAll_22 ?_
  refine zj_istore_n [some (zr g (some this)), some (.int (x2 + v7)), some (.int x3)] d_X_lessonsOfAll_23 (by decide) rfl rfl ?_
  refine zj_iinc (v := (x3 + 1)) [some (zr g (some this)), some (.int (x2 + v7)), some (.int (x3 + 1))] d_X_lessonsOfAll_24 rfl rfl (by decide) rfl rfl ?_
  refine zj_goto 4 d_X_lessonsOfAll_27 rfl ?_
  exact hr1 (x2 + v7) (x3 + 1)
def F_X_post (u0 : zS) (this : Nat) (a1 : Int32) (a2 : Int32) : Option (Int32 × zS) := (F_X_isFlag u0 a1).bind fun v1 => if v1 = 0 then (some ((-2), u0)) else (if a2 < 0 then (some ((-2), u0)) else (if a2 ≤ 99 then ((zgR u0 8 (some this) 0).bind fun v2 => if a1 = 1 then ((zob u0 2 v2).bind fun q8 => (F_Office_open u0 q8 1 a2).bind <| zk fun v6 u7 => some (v6, u7)) else ((zob u0 2 v2).bind fun q5 => (F_Office_open u0 q5 0 a2).bind <| zk fun v3 u4 => some (v3, u4))) else (some ((-2), u0))))
set_option maxHeartbeats 4000000 in
set_option maxRecDepth 100000 in
theorem B_X_post (g : zG) (d : Nat) {u0 : zS} {this : Nat} {a1 : Int32} {a2 : Int32} {o : Int32 × zS} (h : F_X_post u0 this a1 a2 = some o) : zMt g zy_X_post (d + 2) 0 0 [zr g (some this), .int a1, .int a2] u0 (some (.int o.1)) o.2 := by
  refine zMt_of2 (ls := [some (zr g (some this)), some (.int a1), some (.int a2)]) 0 (by decide +kernel) (by simp [lg_sl, zr_cat, zcI, zcJ]) (by simp [zal, zr_cat, zcI, zcJ, List.replicate]) ?_
  revert h
  show zJ g zy_X_post (d + 2) 0 0 zwI o 0 0 0 [some (zr g (some this)), some (.int a1), some (.int a2)] [] u0 (F_X_post u0 this a1 a2)
  unfold F_X_post
  refine zj_iload_n d_X_post_0 rfl ?_
  refine zj_cSIp [.int a1] zm_S_X_isFlag ml_X_114 (fun _ h => B_X_isFlag g (d) h) (Nat.le_refl _) ⟨Nat.zero_le _, Nat.zero_le _⟩ rfl rfl (by decide) d_X_post_1 (fun v1 => ?_)
  refine zj_if_eq 17 d_X_post_4 rfl (fun _ => ?_) (fun _ => ?_)
  · refine zj_bipush (-2) d_X_post_17 (by decide) ?_
    exact zj_iret rfl rfl rfl rfl d_X_post_19
  refine zj_iload_n d_X_post_7 rfl ?_
  refine zj_if_lt 17 d_X_post_8 rfl (fun _ => ?_) (fun _ => ?_)
  · refine zj_bipush (-2) d_X_post_17 (by decide) ?_
    exact zj_iret rfl rfl rfl rfl d_X_post_19
  refine zj_iload_n d_X_post_11 rfl ?_
  refine zj_bipush 99 d_X_post_12 (by decide) ?_
  refine zj_icmp_le 20 d_X_post_14 rfl (fun _ => ?_) (fun _ => ?_)
  · refine zj_aload_n d_X_post_20 rfl ?_
    refine zj_getR fl_X_10 (fun _ _ _ _ => rfl) d_X_post_21 (fun v2 => ?_)
    refine zj_iload_n d_X_post_24 rfl ?_
    refine zj_iconst 1 d_X_post_25 (by decide) ?_
    refine zj_icmp_ne 33 d_X_post_26 rfl (fun _ => ?_) (fun _ => ?_)
    · refine zj_iconst 0 d_X_post_33 (by decide) ?_
      refine zj_iload_n d_X_post_34 rfl ?_
      refine zj_cVI (ci := 2) (T := zT2) (N := 4) [.int 0, .int a2] zm_V_Office_open ml_X_118 rfl (fun _ _ h => B_Office_open g (d) h) (Nat.le_refl _) ⟨Nat.zero_le _, Nat.zero_le _⟩ rfl rfl (by decide) d_X_post_35 (fun v3 u4 => ?_)
      exact zj_iret rfl rfl rfl rfl d_X_post_38
    refine zj_iconst 1 d_X_post_29 (by decide) ?_
    refine zj_goto 34 d_X_post_30 rfl ?_
    refine zj_iload_n d_X_post_34 rfl ?_
    refine zj_cVI (ci := 2) (T := zT2) (N := 4) [.int 1, .int a2] zm_V_Office_open ml_X_118 rfl (fun _ _ h => B_Office_open g (d) h) (Nat.le_refl _) ⟨Nat.zero_le _, Nat.zero_le _⟩ rfl rfl (by decide) d_X_post_35 (fun v6 u7 => ?_)
    exact zj_iret rfl rfl rfl rfl d_X_post_38
  refine zj_bipush (-2) d_X_post_17 (by decide) ?_
  exact zj_iret rfl rfl rfl rfl d_X_post_19
def F_X_taken (u0 : zS) (this : Nat) (a1 : Int32) (a2 : Int32) : Option (Int32) := if a2 < 0 then (some (-2)) else (if a2 < 6 then ((zob u0 8 (some this)).bind fun q2 => (F_X_isPerson u0 q2 a1).bind fun v1 => if v1 = 0 then (some (-11)) else ((zgR u0 8 (some this) 1).bind fun v3 => (zaR u0 "PostsFilled$Person" v3 a1).bind fun v4 => (zob u0 3 v4).bind fun q6 => (F_Person_isA u0 q6 a2).bind fun v5 => if v5 = 0 then (some (-13)) else ((zgR u0 8 (some this) 1).bind fun v7 => (zaR u0 "PostsFilled$Person" v7 a1).bind fun v8 => (zgI u0 3 v8 2).bind fun v9 => some v9))) else (some (-2)))
set_option maxHeartbeats 4000000 in
set_option maxRecDepth 100000 in
theorem B_X_taken (g : zG) (d : Nat) {u0 : zS} {this : Nat} {a1 : Int32} {a2 : Int32} {o : Int32} (h : F_X_taken u0 this a1 a2 = some o) : zMt g zy_X_taken (d + 2) 0 0 [zr g (some this), .int a1, .int a2] u0 (some (.int o)) u0 := by
  refine zMt_of2 (ls := [some (zr g (some this)), some (.int a1), some (.int a2)]) 0 (by decide +kernel) (by simp [lg_sl, zr_cat, zcI, zcJ]) (by simp [zal, zr_cat, zcI, zcJ, List.replicate]) ?_
  revert h
  show zJ g zy_X_taken (d + 2) 0 0 (zwIp u0) o 0 0 0 [some (zr g (some this)), some (.int a1), some (.int a2)] [] u0 (F_X_taken u0 this a1 a2)
  unfold F_X_taken
  refine zj_iload_n d_X_taken_0 rfl ?_
  refine zj_if_lt 10 d_X_taken_1 rfl (fun _ => ?_) (fun _ => ?_)
  · refine zj_bipush (-2) d_X_taken_10 (by decide) ?_
    exact zj_iret rfl rfl rfl rfl d_X_taken_12
  refine zj_iload_n d_X_taken_4 rfl ?_
  refine zj_bipush 6 d_X_taken_5 (by decide) ?_
  refine zj_icmp_lt 13 d_X_taken_7 rfl (fun _ => ?_) (fun _ => ?_)
  · refine zj_aload_n d_X_taken_13 rfl ?_
    refine zj_iload_n d_X_taken_14 rfl ?_
    refine zj_cVIp (ci := 8) (T := zT8) (N := 16) [.int a1] zm_V_X_isPerson ml_X_129 rfl (fun _ _ h => B_X_isPerson g (d) h) (Nat.le_refl _) ⟨Nat.zero_le _, Nat.zero_le _⟩ rfl rfl (by decide) d_X_taken_15 (fun v1 => ?_)
    refine zj_if_ne 24 d_X_taken_18 rfl (fun _ => ?_) (fun _ => ?_)
    · refine zj_aload_n d_X_taken_24 rfl ?_
      refine zj_getR fl_X_18 (fun _ _ _ _ => rfl) d_X_taken_25 (fun v3 => ?_)
      refine zj_iload_n d_X_taken_28 rfl ?_
      refine zj_aaload 4 rfl d_X_taken_29 (fun v4 => ?_)
      refine zj_iload_n d_X_taken_30 rfl ?_
      refine zj_cVIp (ci := 3) (T := zT3) (N := 10) [.int a2] zm_V_Person_isA ml_X_328 rfl (fun _ _ h => B_Person_isA g (d) h) (Nat.le_refl _) ⟨Nat.zero_le _, Nat.zero_le _⟩ rfl rfl (by decide) d_X_taken_31 (fun v5 => ?_)
      refine zj_if_eq 49 d_X_taken_34 rfl (fun _ => ?_) (fun _ => ?_)
      · refine zj_bipush (-13) d_X_taken_49 (by decide) ?_
        exact zj_iret rfl rfl rfl rfl d_X_taken_51
      refine zj_aload_n d_X_taken_37 rfl ?_
      refine zj_getR fl_X_18 (fun _ _ _ _ => rfl) d_X_taken_38 (fun v7 => ?_)
      refine zj_iload_n d_X_taken_41 rfl ?_
      refine zj_aaload 4 rfl d_X_taken_42 (fun v8 => ?_)
      refine zj_getI fl_X_154 (fun _ _ _ _ => rfl) d_X_taken_43 (fun v9 => ?_)
      refine zj_goto 51 d_X_taken_46 rfl ?_
      exact zj_iret rfl rfl rfl rfl d_X_taken_51
    refine zj_bipush (-11) d_X_taken_21 (by decide) ?_
    exact zj_iret rfl rfl rfl rfl d_X_taken_23
  refine zj_bipush (-2) d_X_taken_10 (by decide) ?_
  exact zj_iret rfl rfl rfl rfl d_X_taken_12
def F_X_teach (u0 : zS) (this : Nat) (a1 : Int32) (a2 : Int32) : Option (Int32 × zS) := (zob u0 8 (some this)).bind fun q2 => (F_X_isPerson u0 q2 a1).bind fun v1 => if v1 = 0 then (some ((-2), u0)) else ((zgR u0 8 (some this) 0).bind fun v3 => (zob u0 2 v3).bind fun q5 => (F_Office_has u0 q5 a2).bind fun v4 => if v4 = 0 then (some ((-2), u0)) else ((zgR u0 8 (some this) 1).bind fun v6 => (zaR u0 "PostsFilled$Person" v6 a1).bind fun v7 => (zob u0 3 v7).bind fun q9 => (F_Person_isBarred u0 q9 a2).bind fun v8 => if v8 = 0 then ((zgI u0 3 v7 1).bind fun v10 => if v10 = a2 then (some ((-3), u0)) else ((zgR u0 3 v7 5).bind fun v11 => (zgR u0 8 (some this) 0).bind fun v12 => (zgI u0 2 v12 3).bind fun v13 => (zsI u0 v11 a2 v13).bind fun u14 => (zob u14 3 v7).bind fun q16 => (F_Person_lessonsHad u14 q16 ).bind fun v15 => some (v15, u14))) else (some ((-3), u0))))
set_option maxHeartbeats 4000000 in
set_option maxRecDepth 100000 in
theorem B_X_teach (g : zG) (d : Nat) {u0 : zS} {this : Nat} {a1 : Int32} {a2 : Int32} {o : Int32 × zS} (h : F_X_teach u0 this a1 a2 = some o) : zMt g zy_X_teach (d + 2) 0 0 [zr g (some this), .int a1, .int a2] u0 (some (.int o.1)) o.2 := by
  refine zMt_of2 (ls := [some (zr g (some this)), some (.int a1), some (.int a2), none]) 1 (by decide +kernel) (by simp [lg_sl, zr_cat, zcI, zcJ]) (by simp [zal, zr_cat, zcI, zcJ, List.replicate]) ?_
  revert h
  show zJ g zy_X_teach (d + 2) 0 0 zwI o 0 0 0 [some (zr g (some this)), some (.int a1), some (.int a2), none] [] u0 (F_X_teach u0 this a1 a2)
  unfold F_X_teach
  refine zj_aload_n d_X_teach_0 rfl ?_
  refine zj_iload_n d_X_teach_1 rfl ?_
  refine zj_cVIp (ci := 8) (T := zT8) (N := 16) [.int a1] zm_V_X_isPerson ml_X_129 rfl (fun _ _ h => B_X_isPerson g (d) h) (Nat.le_refl _) ⟨Nat.zero_le _, Nat.zero_le _⟩ rfl rfl (by decide) d_X_teach_2 (fun v1 => ?_)
  refine zj_if_eq 19 d_X_teach_5 rfl (fun _ => ?_) (fun _ => ?_)
  · refine zj_bipush (-2) d_X_teach_19 (by decide) ?_
    exact zj_iret rfl rfl rfl rfl d_X_teach_21
  refine zj_aload_n d_X_teach_8 rfl ?_
  refine zj_getR fl_X_10 (fun _ _ _ _ => rfl) d_X_teach_9 (fun v3 => ?_)
  refine zj_iload_n d_X_teach_12 rfl ?_
  refine zj_cVIp (ci := 2) (T := zT2) (N := 4) [.int a2] zm_V_Office_has ml_X_132 rfl (fun _ _ h => B_Office_has g (d) h) (Nat.le_refl _) ⟨Nat.zero_le _, Nat.zero_le _⟩ rfl rfl (by decide) d_X_teach_13 (fun v4 => ?_)
  refine zj_if_ne 22 d_X_teach_16 rfl (fun _ => ?_) (fun _ => ?_)
  · refine zj_aload_n d_X_teach_22 rfl ?_
    refine zj_getR fl_X_18 (fun _ _ _ _ => rfl) d_X_teach_23 (fun v6 => ?_)
    refine zj_iload_n d_X_teach_26 rfl ?_
    refine zj_aaload 4 rfl d_X_teach_27 (fun v7 => ?_)
    refine zj_astore_n [some (zr g (some this)), some (.int a1), some (.int a2), some (zr g v7)] d_X_teach_28 (by decide) rfl rfl ?_
    refine zj_aload_n d_X_teach_29 rfl ?_
    refine zj_iload_n d_X_teach_30 rfl ?_
    refine zj_cVIp (ci := 3) (T := zT3) (N := 10) [.int a2] zm_V_Person_isBarred ml_X_135 rfl (fun _ _ h => B_Person_isBarred g (d) h) (Nat.le_refl _) ⟨Nat.zero_le _, Nat.zero_le _⟩ rfl rfl (by decide) d_X_teach_31 (fun v8 => ?_)
    refine zj_if_ne 45 d_X_teach_34 rfl (fun _ => ?_) (fun _ => ?_)
    · refine zj_bipush (-3) d_X_teach_45 (by decide) ?_
      exact zj_iret rfl rfl rfl rfl d_X_teach_47
    refine zj_aload_n d_X_teach_37 rfl ?_
    refine zj_getI fl_X_138 (fun _ _ _ _ => rfl) d_X_teach_38 (fun v10 => ?_)
    refine zj_iload_n d_X_teach_41 rfl ?_
    refine zj_icmp_ne 48 d_X_teach_42 rfl (fun _ => ?_) (fun _ => ?_)
    · refine zj_aload_n d_X_teach_48 rfl ?_
      refine zj_getR fl_X_141 (fun _ _ _ _ => rfl) d_X_teach_49 (fun v11 => ?_)
      refine zj_iload_n d_X_teach_52 rfl ?_
      refine zj_aload_n d_X_teach_53 rfl ?_
      refine zj_getR fl_X_10 (fun _ _ _ _ => rfl) d_X_teach_54 (fun v12 => ?_)
      refine zj_getI fl_X_126 (fun _ _ _ _ => rfl) d_X_teach_57 (fun v13 => ?_)
      refine zj_iastore d_X_teach_60 (fun u14 => ?_)
      refine zj_aload_n d_X_teach_61 rfl ?_
      refine zj_cVIp (ci := 3) (T := zT3) (N := 10) [] zm_V_Person_lessonsHad ml_X_144 rfl (fun _ _ h => B_Person_lessonsHad g (d) h) (Nat.le_refl _) ⟨Nat.zero_le _, Nat.zero_le _⟩ rfl rfl (by decide) d_X_teach_62 (fun v15 => ?_)
      exact zj_iret rfl rfl rfl rfl d_X_teach_65
    refine zj_bipush (-3) d_X_teach_45 (by decide) ?_
    exact zj_iret rfl rfl rfl rfl d_X_teach_47
  refine zj_bipush (-2) d_X_teach_19 (by decide) ?_
  exact zj_iret rfl rfl rfl rfl d_X_teach_21
def F_Course_seekOne (u0 : zS) (this : Nat) (a1 : Int64) : Option (zS) := zfix2 (fun (r1 : zS → Int32 → Option (zS)) (u2 : zS) (x3 : Int32) => (zgI u2 0 (some this) 0).bind fun v4 => if v4 ≤ x3 then (some u2) else ((zgR u2 0 (some this) 3).bind fun v5 => (zaJ u2 v5 x3).bind fun v6 => if (lg_cmp (a1 &&& (v6 ^^^ (-1))) 0) = 0 then ((zgR u2 0 (some this) 2).bind fun v7 => (zaI u2 .int v7 x3).bind fun v8 => (zgR u2 0 (some this) 1).bind fun v9 => (zaI u2 .int v9 x3).bind fun v10 => (zob u2 0 (some this)).bind fun q13 => (F_Course_keepCheaper u2 q13 1 v8 v10).bind fun u12 => r1 u12 (x3 + 1)) else (r1 u2 (x3 + 1)))) zFU u0 0
set_option maxHeartbeats 4000000 in
set_option maxRecDepth 100000 in
theorem B_Course_seekOne (g : zG) (d : Nat) {u0 : zS} {this : Nat} {a1 : Int64} {o : zS} (h : F_Course_seekOne u0 this a1 = some o) : zMt g zy_Course_seekOne (d + 2) 0 0 [zr g (some this), .long a1] u0 none o := by
  refine zMt_of2 (ls := [some (zr g (some this)), some (.long a1), none, none]) 1 (by decide +kernel) (by simp [lg_sl, zr_cat, zcI, zcJ]) (by simp [zal, zr_cat, zcI, zcJ, List.replicate]) ?_
  revert h
  show zJ g zy_Course_seekOne (d + 2) 0 0 zwV o 0 0 0 [some (zr g (some this)), some (.long a1), none, none] [] u0 (F_Course_seekOne u0 this a1)
  unfold F_Course_seekOne
  refine zj_iconst 0 d_Course_seekOne_0 (by decide) ?_
  refine zj_istore_n [some (zr g (some this)), some (.long a1), none, some (.int 0)] d_Course_seekOne_1 (by decide) rfl rfl ?_
  refine zj_fix2 (fun u2 x3 => [some (zr g (some this)), some (.long a1), none, some (.int x3)]) (fun u2 x3 => u2) (fun r1 hr1 u2 x3 => ?_) u0 0
  refine zj_iload_n d_Course_seekOne_2 rfl ?_
  refine zj_aload_n d_Course_seekOne_3 rfl ?_
  refine zj_getI fl_Course_9 (fun _ _ _ _ => rfl) d_Course_seekOne_4 (fun v4 => ?_)
  refine zj_icmp_ge 50 d_Course_seekOne_7 rfl (fun _ => ?_) (fun _ => ?_)
  · exact zj_vret rfl rfl rfl rfl d_Course_seekOne_50
  refine zj_lload_n d_Course_seekOne_10 rfl ?_
  refine zj_aload_n d_Course_seekOne_11 rfl ?_
  refine zj_getR fl_Course_22 (fun _ _ _ _ => rfl) d_Course_seekOne_12 (fun v5 => ?_)
  refine zj_iload_n d_Course_seekOne_15 rfl ?_
  refine zj_laload d_Course_seekOne_16 (fun v6 => ?_)
  refine zj_ldc2 cl_Course_43 d_Course_seekOne_17 ?_
  refine zj_lxor d_Course_seekOne_20 ?_
  refine zj_land d_Course_seekOne_21 ?_
  refine zj_lconst 0 d_Course_seekOne_22 (by decide) ?_
  refine zj_lcmp d_Course_seekOne_23 ?_
  refine zj_if_ne 44 d_Course_seekOne_24 rfl (fun _ => ?_) (fun _ => ?_)
  · refine zj_iinc (v := (x3 + 1)) [some (zr g (some this)), some (.long a1), none, some (.int (x3 + 1))] d_Course_seekOne_44 rfl rfl (by decide) rfl rfl ?_
    refine zj_goto 2 d_Course_seekOne_47 rfl ?_
    exact hr1 u2 (x3 + 1)
  refine zj_aload_n d_Course_seekOne_27 rfl ?_
  refine zj_iconst 1 d_Course_seekOne_28 (by decide) ?_
  refine zj_aload_n d_Course_seekOne_29 rfl ?_
  refine zj_getR fl_Course_19 (fun _ _ _ _ => rfl) d_Course_seekOne_30 (fun v7 => ?_)
  refine zj_iload_n d_Course_seekOne_33 rfl ?_
  refine zj_iaload d_Course_seekOne_34 (fun v8 => ?_)
  refine zj_aload_n d_Course_seekOne_35 rfl ?_
  refine zj_getR fl_Course_15 (fun _ _ _ _ => rfl) d_Course_seekOne_36 (fun v9 => ?_)
  refine zj_iload_n d_Course_seekOne_39 rfl ?_
  refine zj_iaload d_Course_seekOne_40 (fun v10 => ?_)
  refine zj_cVU (ci := 0) (T := zT0) (N := 7) [.int 1, .int v8, .int v10] zm_V_Course_keepCheaper ml_Course_45 rfl (fun _ _ h => B_Course_keepCheaper g (d) h) (Nat.le_refl _) ⟨Nat.zero_le _, Nat.zero_le _⟩ rfl rfl (by decide) d_Course_seekOne_41 (fun u12 => ?_)
  refine zj_iinc (v := (x3 + 1)) [some (zr g (some this)), some (.long a1), none, some (.int (x3 + 1))] d_Course_seekOne_44 rfl rfl (by decide) rfl rfl ?_
  refine zj_goto 2 d_Course_seekOne_47 rfl ?_
  exact hr1 u12 (x3 + 1)
def F_Course_seekTwo (u0 : zS) (this : Nat) (a1 : Int64) (a2 : Int64) : Option (zS) := zfix2 (fun (r1 : zS → Int32 → Option (zS)) (u2 : zS) (x3 : Int32) => (zgI u2 0 (some this) 0).bind fun v4 => if v4 ≤ x3 then (some u2) else (zfix2 (fun (r5 : zS → Int32 → Option (zS)) (u6 : zS) (x7 : Int32) => (zgI u6 0 (some this) 0).bind fun v8 => if v8 ≤ x7 then (r1 u6 (x3 + 1)) else ((zgR u6 0 (some this) 1).bind fun v9 => (zaI u6 .int v9 x3).bind fun v10 => (zgR u6 0 (some this) 1).bind fun v11 => (zaI u6 .int v11 x7).bind fun v12 => zjn1 (fun (j14 : Int64 → Option (zS)) => if (v10 / 10) = (v12 / 10) then (j14 0) else ((zgR u6 0 (some this) 3).bind fun v30 => (zaJ u6 v30 x3).bind fun v31 => (zgR u6 0 (some this) 3).bind fun v32 => (zaJ u6 v32 x7).bind fun v33 => j14 (v31 &&& v33))) (fun (x13 : Int64) => (zgR u6 0 (some this) 3).bind fun v15 => (zaJ u6 v15 x3).bind fun v16 => (zgR u6 0 (some this) 3).bind fun v17 => (zaJ u6 v17 x7).bind fun v18 => if (lg_cmp (a1 &&& ((v16 ||| v18) ^^^ (-1))) 0) = 0 then (if (lg_cmp (a2 &&& (x13 ^^^ (-1))) 0) = 0 then ((zgR u6 0 (some this) 2).bind fun v19 => (zaI u6 .int v19 x3).bind fun v20 => (zgR u6 0 (some this) 2).bind fun v21 => (zaI u6 .int v21 x7).bind fun v22 => (zgR u6 0 (some this) 1).bind fun v23 => (zaI u6 .int v23 x3).bind fun v24 => (zgR u6 0 (some this) 1).bind fun v25 => (zaI u6 .int v25 x7).bind fun v26 => (zob u6 0 (some this)).bind fun q29 => (F_Course_keepCheaper u6 q29 2 (v20 + v22) (((100 : Int32) * v24) + v26)).bind fun u28 => r5 u28 (x7 + 1)) else (r5 u6 (x7 + 1))) else (r5 u6 (x7 + 1))))) zFU u2 (x3 + 1))) zFU u0 0
set_option maxHeartbeats 4000000 in
set_option maxRecDepth 100000 in
theorem B_Course_seekTwo (g : zG) (d : Nat) {u0 : zS} {this : Nat} {a1 : Int64} {a2 : Int64} {o : zS} (h : F_Course_seekTwo u0 this a1 a2 = some o) : zMt g zy_Course_seekTwo (d + 2) 0 0 [zr g (some this), .long a1, .long a2] u0 none o := by
  refine zMt_of2 (ls := [some (zr g (some this)), some (.long a1), none, some (.long a2), none, none, none, none, none]) 4 (by decide +kernel) (by simp [lg_sl, zr_cat, zcI, zcJ]) (by simp [zal, zr_cat, zcI, zcJ, List.replicate]) ?_
  revert h
  show zJ g zy_Course_seekTwo (d + 2) 0 0 zwV o 0 0 0 [some (zr g (some this)), some (.long a1), none, some (.long a2), none, none, none, none, none] [] u0 (F_Course_seekTwo u0 this a1 a2)
  unfold F_Course_seekTwo
  refine zj_iconst 0 d_Course_seekTwo_0 (by decide) ?_
  refine zj_istore [some (zr g (some this)), some (.long a1), none, some (.long a2), none, some (.int 0), none, none, none] d_Course_seekTwo_1 (by decide) rfl rfl ?_
  refine zj_fix2 (fun u2 x3 => [some (zr g (some this)), some (.long a1), none, some (.long a2), none, some (.int x3), none, none, none]) (fun u2 x3 => u2) (fun r1 hr1 u2 x3 => ?_) u0 0
  refine zj_iload d_Course_seekTwo_3 rfl ?_
  refine zj_aload_n d_Course_seekTwo_5 rfl ?_
  refine zj_getI fl_Course_9 (fun _ _ _ _ => rfl) d_Course_seekTwo_6 (fun v4 => ?_)
  refine zj_icmp_ge 160 d_Course_seekTwo_9 rfl (fun _ => ?_) (fun _ => ?_)
  · exact zj_vret rfl rfl rfl rfl d_Course_seekTwo_160
  refine zj_iload d_Course_seekTwo_12 rfl ?_
  refine zj_iconst 1 d_Course_seekTwo_14 (by decide) ?_
  refine zj_iadd d_Course_seekTwo_15 ?_
  refine zj_istore [some (zr g (some this)), some (.long a1), none, some (.long a2), none, some (.int x3), some (.int (x3 + 1)), none, none] d_Course_seekTwo_16 (by decide) rfl rfl ?_
  refine zj_fix2 (fun u6 x7 => [some (zr g (some this)), some (.long a1), none, some (.long a2), none, some (.int x3), some (.int x7), none, none]) (fun u6 x7 => u6) (fun r5 hr5 u6 x7 => ?_) u2 (x3 + 1)
  refine zj_iload d_Course_seekTwo_18 rfl ?_
  refine zj_aload_n d_Course_seekTwo_20 rfl ?_
  refine zj_getI fl_Course_9 (fun _ _ _ _ => rfl) d_Course_seekTwo_21 (fun v8 => ?_)
  refine zj_icmp_ge 154 d_Course_seekTwo_24 rfl (fun _ => ?_) (fun _ => ?_)
  · refine zj_iinc (v := (x3 + 1)) [some (zr g (some this)), some (.long a1), none, some (.long a2), none, some (.int (x3 + 1)), some (.int x7), none, none] d_Course_seekTwo_154 rfl rfl (by decide) rfl rfl ?_
    refine zj_goto 3 d_Course_seekTwo_157 rfl ?_
    refine zj_cut [some (zr g (some this)), some (.long a1), none, some (.long a2), none, some (.int (x3 + 1)), none, none, none] ⟨rfl, ⟨rfl, ⟨rfl, ⟨rfl, trivial⟩⟩⟩⟩ ?_
    exact hr1 u6 (x3 + 1)
  refine zj_aload_n d_Course_seekTwo_27 rfl ?_
  refine zj_getR fl_Course_15 (fun _ _ _ _ => rfl) d_Course_seekTwo_28 (fun v9 => ?_)
  refine zj_iload d_Course_seekTwo_31 rfl ?_
  refine zj_iaload d_Course_seekTwo_33 (fun v10 => ?_)
  refine zj_bipush 10 d_Course_seekTwo_34 (by decide) ?_
  refine zj_idiv d_Course_seekTwo_36 (by decide) ?_
  refine zj_aload_n d_Course_seekTwo_37 rfl ?_
  refine zj_getR fl_Course_15 (fun _ _ _ _ => rfl) d_Course_seekTwo_38 (fun v11 => ?_)
  refine zj_iload d_Course_seekTwo_41 rfl ?_
  refine zj_iaload d_Course_seekTwo_43 (fun v12 => ?_)
  refine zj_bipush 10 d_Course_seekTwo_44 (by decide) ?_
  refine zj_idiv d_Course_seekTwo_46 (by decide) ?_
  refine zj_jn1 (pcj := 69) (fun x13 => [some (zr g (some this)), some (.long a1), none, some (.long a2), none, some (.int x3), some (.int x7), none, none]) (fun x13 => [.long x13]) (fun x13 => u6) (fun x13 => ?_) (fun j14 hj14 => ?_)
  · refine zj_lstore [some (zr g (some this)), some (.long a1), none, some (.long a2), none, some (.int x3), some (.int x7), some (.long x13), none] d_Course_seekTwo_69 (by decide) rfl rfl ?_
    refine zj_lload_n d_Course_seekTwo_71 rfl ?_
    refine zj_aload_n d_Course_seekTwo_72 rfl ?_
    refine zj_getR fl_Course_22 (fun _ _ _ _ => rfl) d_Course_seekTwo_73 (fun v15 => ?_)
    refine zj_iload d_Course_seekTwo_76 rfl ?_
    refine zj_laload d_Course_seekTwo_78 (fun v16 => ?_)
    refine zj_aload_n d_Course_seekTwo_79 rfl ?_
    refine zj_getR fl_Course_22 (fun _ _ _ _ => rfl) d_Course_seekTwo_80 (fun v17 => ?_)
    refine zj_iload d_Course_seekTwo_83 rfl ?_
    refine zj_laload d_Course_seekTwo_85 (fun v18 => ?_)
    refine zj_lor d_Course_seekTwo_86 ?_
    refine zj_ldc2 cl_Course_43 d_Course_seekTwo_87 ?_
    refine zj_lxor d_Course_seekTwo_90 ?_
    refine zj_land d_Course_seekTwo_91 ?_
    refine zj_lconst 0 d_Course_seekTwo_92 (by decide) ?_
    refine zj_lcmp d_Course_seekTwo_93 ?_
    refine zj_if_ne 148 d_Course_seekTwo_94 rfl (fun _ => ?_) (fun _ => ?_)
    · refine zj_iinc (v := (x7 + 1)) [some (zr g (some this)), some (.long a1), none, some (.long a2), none, some (.int x3), some (.int (x7 + 1)), some (.long x13), none] d_Course_seekTwo_148 rfl rfl (by decide) rfl rfl ?_
      refine zj_goto 18 d_Course_seekTwo_151 rfl ?_
      refine zj_cut [some (zr g (some this)), some (.long a1), none, some (.long a2), none, some (.int x3), some (.int (x7 + 1)), none, none] ⟨rfl, ⟨rfl, ⟨rfl, ⟨rfl, ⟨rfl, trivial⟩⟩⟩⟩⟩ ?_
      exact hr5 u6 (x7 + 1)
    refine zj_lload_n d_Course_seekTwo_97 rfl ?_
    refine zj_lload d_Course_seekTwo_98 rfl ?_
    refine zj_ldc2 cl_Course_43 d_Course_seekTwo_100 ?_
    refine zj_lxor d_Course_seekTwo_103 ?_
    refine zj_land d_Course_seekTwo_104 ?_
    refine zj_lconst 0 d_Course_seekTwo_105 (by decide) ?_
    refine zj_lcmp d_Course_seekTwo_106 ?_
    refine zj_if_ne 148 d_Course_seekTwo_107 rfl (fun _ => ?_) (fun _ => ?_)
    · refine zj_iinc (v := (x7 + 1)) [some (zr g (some this)), some (.long a1), none, some (.long a2), none, some (.int x3), some (.int (x7 + 1)), some (.long x13), none] d_Course_seekTwo_148 rfl rfl (by decide) rfl rfl ?_
      refine zj_goto 18 d_Course_seekTwo_151 rfl ?_
      refine zj_cut [some (zr g (some this)), some (.long a1), none, some (.long a2), none, some (.int x3), some (.int (x7 + 1)), none, none] ⟨rfl, ⟨rfl, ⟨rfl, ⟨rfl, ⟨rfl, trivial⟩⟩⟩⟩⟩ ?_
      exact hr5 u6 (x7 + 1)
    refine zj_aload_n d_Course_seekTwo_110 rfl ?_
    refine zj_iconst 2 d_Course_seekTwo_111 (by decide) ?_
    refine zj_aload_n d_Course_seekTwo_112 rfl ?_
    refine zj_getR fl_Course_19 (fun _ _ _ _ => rfl) d_Course_seekTwo_113 (fun v19 => ?_)
    refine zj_iload d_Course_seekTwo_116 rfl ?_
    refine zj_iaload d_Course_seekTwo_118 (fun v20 => ?_)
    refine zj_aload_n d_Course_seekTwo_119 rfl ?_
    refine zj_getR fl_Course_19 (fun _ _ _ _ => rfl) d_Course_seekTwo_120 (fun v21 => ?_)
    refine zj_iload d_Course_seekTwo_123 rfl ?_
    refine zj_iaload d_Course_seekTwo_125 (fun v22 => ?_)
    refine zj_iadd d_Course_seekTwo_126 ?_
    refine zj_bipush 100 d_Course_seekTwo_127 (by decide) ?_
    refine zj_aload_n d_Course_seekTwo_129 rfl ?_
    refine zj_getR fl_Course_15 (fun _ _ _ _ => rfl) d_Course_seekTwo_130 (fun v23 => ?_)
    refine zj_iload d_Course_seekTwo_133 rfl ?_
    refine zj_iaload d_Course_seekTwo_135 (fun v24 => ?_)
    refine zj_imul d_Course_seekTwo_136 ?_
    refine zj_aload_n d_Course_seekTwo_137 rfl ?_
    refine zj_getR fl_Course_15 (fun _ _ _ _ => rfl) d_Course_seekTwo_138 (fun v25 => ?_)
    refine zj_iload d_Course_seekTwo_141 rfl ?_
    refine zj_iaload d_Course_seekTwo_143 (fun v26 => ?_)
    refine zj_iadd d_Course_seekTwo_144 ?_
    refine zj_cVU (ci := 0) (T := zT0) (N := 7) [.int 2, .int (v20 + v22), .int (((100 : Int32) * v24) + v26)] zm_V_Course_keepCheaper ml_Course_45 rfl (fun _ _ h => B_Course_keepCheaper g (d) h) (Nat.le_refl _) ⟨Nat.zero_le _, Nat.zero_le _⟩ rfl rfl (by decide) d_Course_seekTwo_145 (fun u28 => ?_)
    refine zj_iinc (v := (x7 + 1)) [some (zr g (some this)), some (.long a1), none, some (.long a2), none, some (.int x3), some (.int (x7 + 1)), some (.long x13), none] d_Course_seekTwo_148 rfl rfl (by decide) rfl rfl ?_
    refine zj_goto 18 d_Course_seekTwo_151 rfl ?_
    refine zj_cut [some (zr g (some this)), some (.long a1), none, some (.long a2), none, some (.int x3), some (.int (x7 + 1)), none, none] ⟨rfl, ⟨rfl, ⟨rfl, ⟨rfl, ⟨rfl, trivial⟩⟩⟩⟩⟩ ?_
    exact hr5 u28 (x7 + 1)
  refine zj_icmp_ne 54 d_Course_seekTwo_47 rfl (fun _ => ?_) (fun _ => ?_)
  · refine zj_aload_n d_Course_seekTwo_54 rfl ?_
    refine zj_getR fl_Course_22 (fun _ _ _ _ => rfl) d_Course_seekTwo_55 (fun v30 => ?_)
    refine zj_iload d_Course_seekTwo_58 rfl ?_
    refine zj_laload d_Course_seekTwo_60 (fun v31 => ?_)
    refine zj_aload_n d_Course_seekTwo_61 rfl ?_
    refine zj_getR fl_Course_22 (fun _ _ _ _ => rfl) d_Course_seekTwo_62 (fun v32 => ?_)
    refine zj_iload d_Course_seekTwo_65 rfl ?_
    refine zj_laload d_Course_seekTwo_67 (fun v33 => ?_)
    refine zj_land d_Course_seekTwo_68 ?_
    exact hj14 (v31 &&& v33)
  refine zj_lconst 0 d_Course_seekTwo_50 (by decide) ?_
  refine zj_goto 69 d_Course_seekTwo_51 rfl ?_
  exact hj14 0
