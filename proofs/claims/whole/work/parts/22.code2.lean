def F_M_areAway (u0 : zS) (this : Nat) (a1 : Int32) : Option (Int32) := if a1 < 0 then (some 0) else ((zgI u0 9 (some this) 4).bind fun v1 => if (a1 >>> (v1 &&& 31)) = 0 then (some 1) else (some 0))
set_option maxHeartbeats 4000000 in
set_option maxRecDepth 100000 in
theorem B_M_areAway (g : zG) (d : Nat) {u0 : zS} {this : Nat} {a1 : Int32} {o : Int32} (h : F_M_areAway u0 this a1 = some o) : zMt g zy_M_areAway (d + 1) 0 0 [zr g (some this), .int a1] u0 (some (.int o)) u0 := by
  refine zMt_of2 (ls := [some (zr g (some this)), some (.int a1)]) 0 (by decide +kernel) (by simp [lg_sl, zr_cat, zcI, zcJ]) (by simp [zal, zr_cat, zcI, zcJ, List.replicate]) ?_
  revert h
  show zJ g zy_M_areAway (d + 1) 0 0 (zwIp u0) o 0 0 0 [some (zr g (some this)), some (.int a1)] [] u0 (F_M_areAway u0 this a1)
  unfold F_M_areAway
  refine zj_iload_n d_M_areAway_0 rfl ?_
  refine zj_if_lt 17 d_M_areAway_1 rfl (fun _ => ?_) (fun _ => ?_)
  · refine zj_iconst 0 d_M_areAway_17 (by decide) ?_
    exact zj_zretL (by decide) rfl rfl rfl rfl d_M_areAway_18
  refine zj_iload_n d_M_areAway_4 rfl ?_
  refine zj_aload_n d_M_areAway_5 rfl ?_
  refine zj_getI fl_M_113 (fun _ _ _ _ => rfl) d_M_areAway_6 (fun v1 => ?_)
  refine zj_ishr d_M_areAway_9 ?_
  refine zj_if_ne 17 d_M_areAway_10 rfl (fun _ => ?_) (fun _ => ?_)
  · refine zj_iconst 0 d_M_areAway_17 (by decide) ?_
    exact zj_zretL (by decide) rfl rfl rfl rfl d_M_areAway_18
  refine zj_iconst 1 d_M_areAway_13 (by decide) ?_
  refine zj_goto 18 d_M_areAway_14 rfl ?_
  exact zj_zretL (by decide) rfl rfl rfl rfl d_M_areAway_18
def F_M_back (u0 : zS) (this : Nat) : Option (Int32 × zS) := (zgI u0 9 (some this) 41).bind fun v1 => if v1 = 0 then (some ((-3), u0)) else ((zgI u0 9 (some this) 43).bind fun v2 => (zpI u0 9 (some this) 10 v2).bind fun u3 => (zgI u3 9 (some this) 44).bind fun v4 => (zpI u3 9 (some this) 17 v4).bind fun u5 => zfix2 (fun (r6 : zS → Int32 → Option (Int32 × zS)) (u7 : zS) (x8 : Int32) => (zgI u7 9 (some this) 42).bind fun v9 => if ((6 : Int32) * v9) ≤ x8 then (zfix2 (fun (r10 : zS → Int32 → Option (Int32 × zS)) (u11 : zS) (x12 : Int32) => (zgI u11 9 (some this) 42).bind fun v13 => if v13 ≤ x12 then ((zgI u11 9 (some this) 10).bind fun v14 => some (v14, u11)) else ((zgR u11 9 (some this) 9).bind fun v15 => (zgR u11 9 (some this) 48).bind fun v16 => (zaI u11 .int v16 x12).bind fun v17 => (zsI u11 v15 x12 v17).bind fun u18 => r10 u18 (x12 + 1))) zFU u7 0) else ((zgR u7 9 (some this) 11).bind fun v19 => (zgR u7 9 (some this) 45).bind fun v20 => (zaI u7 .int v20 x8).bind fun v21 => (zsI u7 v19 x8 v21).bind fun u22 => (zgR u22 9 (some this) 12).bind fun v23 => (zgR u22 9 (some this) 46).bind fun v24 => (zaI u22 .boolean v24 x8).bind fun v25 => (zsZ u22 v23 x8 v25).bind fun u26 => (zgR u26 9 (some this) 13).bind fun v27 => (zgR u26 9 (some this) 47).bind fun v28 => (zaI u26 .boolean v28 x8).bind fun v29 => (zsZ u26 v27 x8 v29).bind fun u30 => r6 u30 (x8 + 1))) zFU u5 0)
set_option maxHeartbeats 4000000 in
set_option maxRecDepth 100000 in
theorem B_M_back (g : zG) (d : Nat) {u0 : zS} {this : Nat} {o : Int32 × zS} (h : F_M_back u0 this = some o) : zMt g zy_M_back (d + 1) 0 0 [zr g (some this)] u0 (some (.int o.1)) o.2 := by
  refine zMt_of2 (ls := [some (zr g (some this)), none]) 1 (by decide +kernel) (by simp [lg_sl, zr_cat, zcI, zcJ]) (by simp [zal, zr_cat, zcI, zcJ, List.replicate]) ?_
  revert h
  show zJ g zy_M_back (d + 1) 0 0 zwI o 0 0 0 [some (zr g (some this)), none] [] u0 (F_M_back u0 this)
  unfold F_M_back
  refine zj_aload_n d_M_back_0 rfl ?_
  refine zj_getI fl_M_342 (fun _ _ _ _ => rfl) d_M_back_1 (fun v1 => ?_)
  refine zj_if_ne 10 d_M_back_4 rfl (fun _ => ?_) (fun _ => ?_)
  · refine zj_aload_n d_M_back_10 rfl ?_
    refine zj_aload_n d_M_back_11 rfl ?_
    refine zj_getI fl_M_348 (fun _ _ _ _ => rfl) d_M_back_12 (fun v2 => ?_)
    refine zj_putI fl_M_130 (fun _ _ _ _ => rfl) ⟨rfl, rfl⟩ d_M_back_15 (fun u3 => ?_)
    refine zj_aload_n d_M_back_18 rfl ?_
    refine zj_aload_n d_M_back_19 rfl ?_
    refine zj_getI fl_M_351 (fun _ _ _ _ => rfl) d_M_back_20 (fun v4 => ?_)
    refine zj_putI fl_M_253 (fun _ _ _ _ => rfl) ⟨rfl, rfl⟩ d_M_back_23 (fun u5 => ?_)
    refine zj_iconst 0 d_M_back_26 (by decide) ?_
    refine zj_istore_n [some (zr g (some this)), some (.int 0)] d_M_back_27 (by decide) rfl rfl ?_
    refine zj_fix2 (fun u7 x8 => [some (zr g (some this)), some (.int x8)]) (fun u7 x8 => u7) (fun r6 hr6 u7 x8 => ?_) u5 0
    refine zj_iload_n d_M_back_28 rfl ?_
    refine zj_bipush 6 d_M_back_29 (by decide) ?_
    refine zj_aload_n d_M_back_31 rfl ?_
    refine zj_getI fl_M_345 (fun _ _ _ _ => rfl) d_M_back_32 (fun v9 => ?_)
    refine zj_imul d_M_back_35 ?_
    refine zj_icmp_ge 81 d_M_back_36 rfl (fun _ => ?_) (fun _ => ?_)
    · refine zj_iconst 0 d_M_back_81 (by decide) ?_
      refine zj_istore_n [some (zr g (some this)), some (.int 0)] d_M_back_82 (by decide) rfl rfl ?_
      refine zj_fix2 (fun u11 x12 => [some (zr g (some this)), some (.int x12)]) (fun u11 x12 => u11) (fun r10 hr10 u11 x12 => ?_) u7 0
      refine zj_iload_n d_M_back_83 rfl ?_
      refine zj_aload_n d_M_back_84 rfl ?_
      refine zj_getI fl_M_345 (fun _ _ _ _ => rfl) d_M_back_85 (fun v13 => ?_)
      refine zj_icmp_ge 109 d_M_back_88 rfl (fun _ => ?_) (fun _ => ?_)
      · refine zj_aload_n d_M_back_109 rfl ?_
        refine zj_getI fl_M_130 (fun _ _ _ _ => rfl) d_M_back_110 (fun v14 => ?_)
        exact zj_iret rfl rfl rfl rfl d_M_back_113
      refine zj_aload_n d_M_back_91 rfl ?_
      refine zj_getR fl_M_33 (fun _ _ _ _ => rfl) d_M_back_92 (fun v15 => ?_)
      refine zj_iload_n d_M_back_95 rfl ?_
      refine zj_aload_n d_M_back_96 rfl ?_
      refine zj_getR fl_M_88 (fun _ _ _ _ => rfl) d_M_back_97 (fun v16 => ?_)
      refine zj_iload_n d_M_back_100 rfl ?_
      refine zj_iaload d_M_back_101 (fun v17 => ?_)
      refine zj_iastore d_M_back_102 (fun u18 => ?_)
      refine zj_iinc (v := (x12 + 1)) [some (zr g (some this)), some (.int (x12 + 1))] d_M_back_103 rfl rfl (by decide) rfl rfl ?_
      refine zj_goto 83 d_M_back_106 rfl ?_
      exact hr10 u18 (x12 + 1)
    refine zj_aload_n d_M_back_39 rfl ?_
    refine zj_getR fl_M_36 (fun _ _ _ _ => rfl) d_M_back_40 (fun v19 => ?_)
    refine zj_iload_n d_M_back_43 rfl ?_
    refine zj_aload_n d_M_back_44 rfl ?_
    refine zj_getR fl_M_79 (fun _ _ _ _ => rfl) d_M_back_45 (fun v20 => ?_)
    refine zj_iload_n d_M_back_48 rfl ?_
    refine zj_iaload d_M_back_49 (fun v21 => ?_)
    refine zj_iastore d_M_back_50 (fun u22 => ?_)
    refine zj_aload_n d_M_back_51 rfl ?_
    refine zj_getR fl_M_39 (fun _ _ _ _ => rfl) d_M_back_52 (fun v23 => ?_)
    refine zj_iload_n d_M_back_55 rfl ?_
    refine zj_aload_n d_M_back_56 rfl ?_
    refine zj_getR fl_M_82 (fun _ _ _ _ => rfl) d_M_back_57 (fun v24 => ?_)
    refine zj_iload_n d_M_back_60 rfl ?_
    refine zj_zaload d_M_back_61 (fun v25 => ?_)
    refine zj_zastore d_M_back_62 (fun u26 => ?_)
    refine zj_aload_n d_M_back_63 rfl ?_
    refine zj_getR fl_M_42 (fun _ _ _ _ => rfl) d_M_back_64 (fun v27 => ?_)
    refine zj_iload_n d_M_back_67 rfl ?_
    refine zj_aload_n d_M_back_68 rfl ?_
    refine zj_getR fl_M_85 (fun _ _ _ _ => rfl) d_M_back_69 (fun v28 => ?_)
    refine zj_iload_n d_M_back_72 rfl ?_
    refine zj_zaload d_M_back_73 (fun v29 => ?_)
    refine zj_zastore d_M_back_74 (fun u30 => ?_)
    refine zj_iinc (v := (x8 + 1)) [some (zr g (some this)), some (.int (x8 + 1))] d_M_back_75 rfl rfl (by decide) rfl rfl ?_
    refine zj_goto 28 d_M_back_78 rfl ?_
    exact hr6 u30 (x8 + 1)
  refine zj_bipush (-3) d_M_back_7 (by decide) ?_
  exact zj_iret rfl rfl rfl rfl d_M_back_9
def F_M_bitsOf (u0 : zS) (a1 : Int32) : Option (Int32) := zfix2 (fun (r1 : Int32 → Int32 → Option (Int32)) (x2 : Int32) (x3 : Int32) => if x3 = 0 then (some x2) else (r1 (x2 + 1) (x3 &&& (x3 - 1)))) zFU 0 a1
set_option maxHeartbeats 4000000 in
set_option maxRecDepth 100000 in
theorem B_M_bitsOf (g : zG) (d : Nat) {u0 : zS} {a1 : Int32} {o : Int32} (h : F_M_bitsOf u0 a1 = some o) : zMt g zy_M_bitsOf (d + 1) 0 0 [.int a1] u0 (some (.int o)) u0 := by
  refine zMt_of2 (ls := [some (.int a1), none, none]) 2 (by decide +kernel) (by simp [lg_sl, zr_cat, zcI, zcJ]) (by simp [zal, zr_cat, zcI, zcJ, List.replicate]) ?_
  revert h
  show zJ g zy_M_bitsOf (d + 1) 0 0 (zwIp u0) o 0 0 0 [some (.int a1), none, none] [] u0 (F_M_bitsOf u0 a1)
  unfold F_M_bitsOf
  refine zj_iconst 0 d_M_bitsOf_0 (by decide) ?_
  refine zj_istore_n [some (.int a1), some (.int 0), none] d_M_bitsOf_1 (by decide) rfl rfl ?_
  refine zj_iload_n d_M_bitsOf_2 rfl ?_
  refine zj_istore_n [some (.int a1), some (.int 0), some (.int a1)] d_M_bitsOf_3 (by decide) rfl rfl ?_
  refine zj_cut [none, some (.int 0), some (.int a1)] ⟨rfl, ⟨rfl, trivial⟩⟩ ?_
  refine zj_fix2 (fun x2 x3 => [none, some (.int x2), some (.int x3)]) (fun x2 x3 => u0) (fun r1 hr1 x2 x3 => ?_) 0 a1
  refine zj_iload_n d_M_bitsOf_4 rfl ?_
  refine zj_if_eq 20 d_M_bitsOf_5 rfl (fun _ => ?_) (fun _ => ?_)
  · refine zj_iload_n d_M_bitsOf_20 rfl ?_
    exact zj_iret rfl rfl rfl rfl d_M_bitsOf_21
  refine zj_iinc (v := (x2 + 1)) [none, some (.int (x2 + 1)), some (.int x3)] d_M_bitsOf_8 rfl rfl (by decide) rfl rfl ?_
  refine zj_iload_n d_M_bitsOf_11 rfl ?_
  refine zj_iload_n d_M_bitsOf_12 rfl ?_
  refine zj_iconst 1 d_M_bitsOf_13 (by decide) ?_
  refine zj_isub d_M_bitsOf_14 ?_
  refine zj_iand d_M_bitsOf_15 ?_
  refine zj_istore_n [none, some (.int (x2 + 1)), some (.int (x3 &&& (x3 - 1)))] d_M_bitsOf_16 (by decide) rfl rfl ?_
  refine zj_goto 4 d_M_bitsOf_17 rfl ?_
  exact hr1 (x2 + 1) (x3 &&& (x3 - 1))
def F_M_byteAt (u0 : zS) (this : Nat) (a1 : Int32) : Option (Int32) := (zgI u0 9 (some this) 15).bind fun v1 => if v1 ≤ a1 then (some (-1)) else ((zgR u0 9 (some this) 14).bind fun v2 => (zaI u0 .int v2 a1).bind fun v3 => some v3)
set_option maxHeartbeats 4000000 in
set_option maxRecDepth 100000 in
theorem B_M_byteAt (g : zG) (d : Nat) {u0 : zS} {this : Nat} {a1 : Int32} {o : Int32} (h : F_M_byteAt u0 this a1 = some o) : zMt g zy_M_byteAt (d + 1) 0 0 [zr g (some this), .int a1] u0 (some (.int o)) u0 := by
  refine zMt_of2 (ls := [some (zr g (some this)), some (.int a1)]) 0 (by decide +kernel) (by simp [lg_sl, zr_cat, zcI, zcJ]) (by simp [zal, zr_cat, zcI, zcJ, List.replicate]) ?_
  revert h
  show zJ g zy_M_byteAt (d + 1) 0 0 (zwIp u0) o 0 0 0 [some (zr g (some this)), some (.int a1)] [] u0 (F_M_byteAt u0 this a1)
  unfold F_M_byteAt
  refine zj_iload_n d_M_byteAt_0 rfl ?_
  refine zj_aload_n d_M_byteAt_1 rfl ?_
  refine zj_getI fl_M_161 (fun _ _ _ _ => rfl) d_M_byteAt_2 (fun v1 => ?_)
  refine zj_icmp_ge 17 d_M_byteAt_5 rfl (fun _ => ?_) (fun _ => ?_)
  · refine zj_iconst (-1) d_M_byteAt_17 (by decide) ?_
    exact zj_iret rfl rfl rfl rfl d_M_byteAt_18
  refine zj_aload_n d_M_byteAt_8 rfl ?_
  refine zj_getR fl_M_45 (fun _ _ _ _ => rfl) d_M_byteAt_9 (fun v2 => ?_)
  refine zj_iload_n d_M_byteAt_12 rfl ?_
  refine zj_iaload d_M_byteAt_13 (fun v3 => ?_)
  refine zj_goto 18 d_M_byteAt_14 rfl ?_
  exact zj_iret rfl rfl rfl rfl d_M_byteAt_18
def F_M_even (u0 : zS) (this : Nat) : Option (Int32) := zfix3 (fun (r1 : Int32 → Int32 → Int32 → Option (Int32)) (x2 : Int32) (x3 : Int32) (x4 : Int32) => (zgI u0 9 (some this) 4).bind fun v5 => if v5 ≤ x4 then (if 0 ≤ x2 then (some (x3 - x2)) else (some (-1))) else (zjn1 (fun (j7 : Int32 → Option (Int32)) => if x2 < 0 then ((zgR u0 9 (some this) 9).bind fun v12 => (zaI u0 .int v12 x4).bind fun v13 => j7 v13) else ((zgR u0 9 (some this) 9).bind fun v14 => (zaI u0 .int v14 x4).bind fun v15 => if x2 ≤ v15 then (j7 x2) else ((zgR u0 9 (some this) 9).bind fun v16 => (zaI u0 .int v16 x4).bind fun v17 => j7 v17))) (fun (x6 : Int32) => (zgR u0 9 (some this) 9).bind fun v8 => (zaI u0 .int v8 x4).bind fun v9 => if v9 ≤ x3 then (r1 x6 x3 (x4 + 1)) else ((zgR u0 9 (some this) 9).bind fun v10 => (zaI u0 .int v10 x4).bind fun v11 => r1 x6 v11 (x4 + 1))))) zFU (-1) 0 0
set_option maxHeartbeats 4000000 in
set_option maxRecDepth 100000 in
theorem B_M_even (g : zG) (d : Nat) {u0 : zS} {this : Nat} {o : Int32} (h : F_M_even u0 this = some o) : zMt g zy_M_even (d + 1) 0 0 [zr g (some this)] u0 (some (.int o)) u0 := by
  refine zMt_of2 (ls := [some (zr g (some this)), none, none, none]) 3 (by decide +kernel) (by simp [lg_sl, zr_cat, zcI, zcJ]) (by simp [zal, zr_cat, zcI, zcJ, List.replicate]) ?_
  revert h
  show zJ g zy_M_even (d + 1) 0 0 (zwIp u0) o 0 0 0 [some (zr g (some this)), none, none, none] [] u0 (F_M_even u0 this)
  unfold F_M_even
  refine zj_iconst (-1) d_M_even_0 (by decide) ?_
  refine zj_istore_n [some (zr g (some this)), some (.int (-1)), none, none] d_M_even_1 (by decide) rfl rfl ?_
  refine zj_iconst 0 d_M_even_2 (by decide) ?_
  refine zj_istore_n [some (zr g (some this)), some (.int (-1)), some (.int 0), none] d_M_even_3 (by decide) rfl rfl ?_
  refine zj_iconst 0 d_M_even_4 (by decide) ?_
  refine zj_istore_n [some (zr g (some this)), some (.int (-1)), some (.int 0), some (.int 0)] d_M_even_5 (by decide) rfl rfl ?_
  refine zj_fix3 (fun x2 x3 x4 => [some (zr g (some this)), some (.int x2), some (.int x3), some (.int x4)]) (fun x2 x3 x4 => u0) (fun r1 hr1 x2 x3 x4 => ?_) (-1) 0 0
  refine zj_iload_n d_M_even_6 rfl ?_
  refine zj_aload_n d_M_even_7 rfl ?_
  refine zj_getI fl_M_113 (fun _ _ _ _ => rfl) d_M_even_8 (fun v5 => ?_)
  refine zj_icmp_ge 66 d_M_even_11 rfl (fun _ => ?_) (fun _ => ?_)
  · refine zj_iload_n d_M_even_66 rfl ?_
    refine zj_if_ge 74 d_M_even_67 rfl (fun _ => ?_) (fun _ => ?_)
    · refine zj_iload_n d_M_even_74 rfl ?_
      refine zj_iload_n d_M_even_75 rfl ?_
      refine zj_isub d_M_even_76 ?_
      exact zj_iret rfl rfl rfl rfl d_M_even_77
    refine zj_iconst (-1) d_M_even_70 (by decide) ?_
    refine zj_goto 77 d_M_even_71 rfl ?_
    exact zj_iret rfl rfl rfl rfl d_M_even_77
  refine zj_iload_n d_M_even_14 rfl ?_
  refine zj_jn1 (pcj := 38) (fun x6 => [some (zr g (some this)), none, some (.int x3), some (.int x4)]) (fun x6 => [.int x6]) (fun x6 => u0) (fun x6 => ?_) (fun j7 hj7 => ?_)
  · refine zj_istore_n [some (zr g (some this)), some (.int x6), some (.int x3), some (.int x4)] d_M_even_38 (by decide) rfl rfl ?_
    refine zj_aload_n d_M_even_39 rfl ?_
    refine zj_getR fl_M_33 (fun _ _ _ _ => rfl) d_M_even_40 (fun v8 => ?_)
    refine zj_iload_n d_M_even_43 rfl ?_
    refine zj_iaload d_M_even_44 (fun v9 => ?_)
    refine zj_iload_n d_M_even_45 rfl ?_
    refine zj_icmp_le 58 d_M_even_46 rfl (fun _ => ?_) (fun _ => ?_)
    · refine zj_iload_n d_M_even_58 rfl ?_
      refine zj_istore_n [some (zr g (some this)), some (.int x6), some (.int x3), some (.int x4)] d_M_even_59 (by decide) rfl rfl ?_
      refine zj_iinc (v := (x4 + 1)) [some (zr g (some this)), some (.int x6), some (.int x3), some (.int (x4 + 1))] d_M_even_60 rfl rfl (by decide) rfl rfl ?_
      refine zj_goto 6 d_M_even_63 rfl ?_
      exact hr1 x6 x3 (x4 + 1)
    refine zj_aload_n d_M_even_49 rfl ?_
    refine zj_getR fl_M_33 (fun _ _ _ _ => rfl) d_M_even_50 (fun v10 => ?_)
    refine zj_iload_n d_M_even_53 rfl ?_
    refine zj_iaload d_M_even_54 (fun v11 => ?_)
    refine zj_goto 59 d_M_even_55 rfl ?_
    refine zj_istore_n [some (zr g (some this)), some (.int x6), some (.int v11), some (.int x4)] d_M_even_59 (by decide) rfl rfl ?_
    refine zj_iinc (v := (x4 + 1)) [some (zr g (some this)), some (.int x6), some (.int v11), some (.int (x4 + 1))] d_M_even_60 rfl rfl (by decide) rfl rfl ?_
    refine zj_goto 6 d_M_even_63 rfl ?_
    exact hr1 x6 v11 (x4 + 1)
  refine zj_if_lt 28 d_M_even_15 rfl (fun _ => ?_) (fun _ => ?_)
  · refine zj_aload_n d_M_even_28 rfl ?_
    refine zj_getR fl_M_33 (fun _ _ _ _ => rfl) d_M_even_29 (fun v12 => ?_)
    refine zj_iload_n d_M_even_32 rfl ?_
    refine zj_iaload d_M_even_33 (fun v13 => ?_)
    refine zj_goto 38 d_M_even_34 rfl ?_
    refine zj_cut [some (zr g (some this)), none, some (.int x3), some (.int x4)] ⟨rfl, ⟨rfl, ⟨rfl, trivial⟩⟩⟩ ?_
    exact hj7 v13
  refine zj_aload_n d_M_even_18 rfl ?_
  refine zj_getR fl_M_33 (fun _ _ _ _ => rfl) d_M_even_19 (fun v14 => ?_)
  refine zj_iload_n d_M_even_22 rfl ?_
  refine zj_iaload d_M_even_23 (fun v15 => ?_)
  refine zj_iload_n d_M_even_24 rfl ?_
  refine zj_icmp_ge 37 d_M_even_25 rfl (fun _ => ?_) (fun _ => ?_)
  · refine zj_iload_n d_M_even_37 rfl ?_
    refine zj_cut [some (zr g (some this)), none, some (.int x3), some (.int x4)] ⟨rfl, ⟨rfl, ⟨rfl, trivial⟩⟩⟩ ?_
    exact hj7 x2
  refine zj_aload_n d_M_even_28 rfl ?_
  refine zj_getR fl_M_33 (fun _ _ _ _ => rfl) d_M_even_29 (fun v16 => ?_)
  refine zj_iload_n d_M_even_32 rfl ?_
  refine zj_iaload d_M_even_33 (fun v17 => ?_)
  refine zj_goto 38 d_M_even_34 rfl ?_
  refine zj_cut [some (zr g (some this)), none, some (.int x3), some (.int x4)] ⟨rfl, ⟨rfl, ⟨rfl, trivial⟩⟩⟩ ?_
  exact hj7 v17
def F_M_fills (rec : zS → Nat → Int32 → Int32 → Int32 → Option (Int32 × zS)) (u0 : zS) (this : Nat) (a1 : Int32) (a2 : Int32) (a3 : Int32) : Option (Int32 × zS) := (zgI u0 9 (some this) 1).bind fun v1 => if a1 = v1 then ((zgI u0 9 (some this) 37).bind fun v41 => if v41 = 0 then (some (1, u0)) else ((zgI u0 9 (some this) 36).bind fun v42 => if a3 ≤ v42 then (some (1, u0)) else ((zpI u0 9 (some this) 36 a3).bind fun u43 => zfix2 (fun (r44 : zS → Int32 → Option (Int32 × zS)) (u45 : zS) (x46 : Int32) => (zgI u45 9 (some this) 1).bind fun v47 => if v47 ≤ x46 then (some (1, u45)) else ((zgR u45 9 (some this) 35).bind fun v48 => (zgR u45 9 (some this) 34).bind fun v49 => (zaI u45 .int v49 x46).bind fun v50 => (zsI u45 v48 x46 v50).bind fun u51 => r44 u51 (x46 + 1))) zFU u43 0))) else ((zgR u0 9 (some this) 2).bind fun v2 => (zaI u0 .boolean v2 a1).bind fun v3 => zjn1 (fun (j5 : Int32 → Option (Int32 × zS)) => if v3 = 0 then (j5 (-1)) else (j5 0)) (fun (x4 : Int32) => zfix3 (fun (r6 : zS → Int32 → Int32 → Option (Int32 × zS)) (u7 : zS) (x8 : Int32) (x9 : Int32) => (zgI u7 9 (some this) 4).bind fun v10 => if v10 ≤ x9 then (zrz x8 (x8, u7)) else (if x9 < 0 then ((zgR u7 9 (some this) 34).bind fun v11 => (zsI u7 v11 a1 x9).bind fun u12 => zjn1 (fun (j14 : Int32 → Option (Int32 × zS)) => if 0 ≤ x9 then (j14 (a2 ||| ((1 : Int32) <<< (x9 &&& 31)))) else (j14 a2)) (fun (x13 : Int32) => zjn1 (fun (j16 : Int32 → Option (Int32 × zS)) => if 0 ≤ x9 then ((zgR u12 9 (some this) 33).bind fun v23 => (zaI u12 .int v23 (((6 : Int32) * x9) + a1)).bind fun v24 => j16 (a3 + v24)) else (j16 a3)) (fun (x15 : Int32) => (zob u12 9 (some this)).bind fun q19 => (rec  u12 q19 (a1 + 1) x13 x15).bind <| zk fun v17 u18 => zjn1 (fun (j21 : Int32 → Option (Int32 × zS)) => if x8 = 0 then (if v17 = 0 then (j21 0) else (j21 1)) else (j21 1)) (fun (x20 : Int32) => if x20 = 0 then (r6 u18 x20 (x9 + 1)) else ((zgI u18 9 (some this) 37).bind fun v22 => if v22 = 0 then (some (1, u18)) else (r6 u18 x20 (x9 + 1))))))) else (if ((a2 >>> (x9 &&& 31)) &&& 1) = 1 then (r6 u7 x8 (x9 + 1)) else ((zgR u7 9 (some this) 32).bind fun v25 => (zaI u7 .int v25 x9).bind fun v26 => if ((v26 >>> (a1 &&& 31)) &&& 1) = 0 then (r6 u7 x8 (x9 + 1)) else ((zgR u7 9 (some this) 34).bind fun v27 => (zsI u7 v27 a1 x9).bind fun u28 => zjn1 (fun (j30 : Int32 → Option (Int32 × zS)) => if 0 ≤ x9 then (j30 (a2 ||| ((1 : Int32) <<< (x9 &&& 31)))) else (j30 a2)) (fun (x29 : Int32) => zjn1 (fun (j32 : Int32 → Option (Int32 × zS)) => if 0 ≤ x9 then ((zgR u28 9 (some this) 33).bind fun v39 => (zaI u28 .int v39 (((6 : Int32) * x9) + a1)).bind fun v40 => j32 (a3 + v40)) else (j32 a3)) (fun (x31 : Int32) => (zob u28 9 (some this)).bind fun q35 => (rec  u28 q35 (a1 + 1) x29 x31).bind <| zk fun v33 u34 => zjn1 (fun (j37 : Int32 → Option (Int32 × zS)) => if x8 = 0 then (if v33 = 0 then (j37 0) else (j37 1)) else (j37 1)) (fun (x36 : Int32) => if x36 = 0 then (r6 u34 x36 (x9 + 1)) else ((zgI u34 9 (some this) 37).bind fun v38 => if v38 = 0 then (some (1, u34)) else (r6 u34 x36 (x9 + 1))))))))))) zFU u0 0 x4))
set_option maxHeartbeats 4000000 in
set_option maxRecDepth 100000 in
theorem B_M_fills (g : zG) (d : Nat) (hdd : 1 ≤ d) {rec : zS → Nat → Int32 → Int32 → Int32 → Option (Int32 × zS)} (hrec_fills : ∀ {u0 : zS} {this : Nat} {a1 a2 a3 : Int32} {o : Int32 × zS}, rec u0 this a1 a2 a3 = some o → zMt g zy_M_fills d 0 0 [zr g (some this), .int a1, .int a2, .int a3] u0 (some (.int o.1)) o.2) {u0 : zS} {this : Nat} {a1 : Int32} {a2 : Int32} {a3 : Int32} {o : Int32 × zS} (h : F_M_fills rec u0 this a1 a2 a3 = some o) : zMt g zy_M_fills (d + 1) 0 0 [zr g (some this), .int a1, .int a2, .int a3] u0 (some (.int o.1)) o.2 := by
  refine zMt_of2 (ls := [some (zr g (some this)), some (.int a1), some (.int a2), some (.int a3), none, none, none]) 3 (by decide +kernel) (by simp [lg_sl, zr_cat, zcI, zcJ]) (by simp [zal, zr_cat, zcI, zcJ, List.replicate]) ?_
  revert h
  show zJ g zy_M_fills (d + 1) 0 0 zwI o 0 0 0 [some (zr g (some this)), some (.int a1), some (.int a2), some (.int a3), none, none, none] [] u0 (F_M_fills rec u0 this a1 a2 a3)
  unfold F_M_fills
  refine zj_iload_n d_M_fills_0 rfl ?_
  refine zj_aload_n d_M_fills_1 rfl ?_
  refine zj_getI fl_M_106 (fun _ _ _ _ => rfl) d_M_fills_2 (fun v1 => ?_)
  refine zj_icmp_ne 62 d_M_fills_5 rfl (fun _ => ?_) (fun _ => ?_)
  · refine zj_iconst 0 d_M_fills_62 (by decide) ?_
    refine zj_istore [some (zr g (some this)), some (.int a1), some (.int a2), some (.int a3), some (.int 0), none, none] d_M_fills_63 (by decide) rfl rfl ?_
    refine zj_aload_n d_M_fills_65 rfl ?_
    refine zj_getR fl_M_13 (fun _ _ _ _ => rfl) d_M_fills_66 (fun v2 => ?_)
    refine zj_iload_n d_M_fills_69 rfl ?_
    refine zj_zaload d_M_fills_70 (fun v3 => ?_)
    refine zj_jn1 (pcj := 79) (fun x4 => [some (zr g (some this)), some (.int a1), some (.int a2), some (.int a3), some (.int 0), none, none]) (fun x4 => [.int x4]) (fun x4 => u0) (fun x4 => ?_) (fun j5 hj5 => ?_)
    · refine zj_istore [some (zr g (some this)), some (.int a1), some (.int a2), some (.int a3), some (.int 0), some (.int x4), none] d_M_fills_79 (by decide) rfl rfl ?_
      refine zj_fix3 (fun u7 x8 x9 => [some (zr g (some this)), some (.int a1), some (.int a2), some (.int a3), some (.int x8), some (.int x9), none]) (fun u7 x8 x9 => u7) (fun r6 hr6 u7 x8 x9 => ?_) u0 0 x4
      refine zj_iload d_M_fills_81 rfl ?_
      refine zj_aload_n d_M_fills_83 rfl ?_
      refine zj_getI fl_M_113 (fun _ _ _ _ => rfl) d_M_fills_84 (fun v10 => ?_)
      refine zj_icmp_ge 214 d_M_fills_87 rfl (fun _ => ?_) (fun _ => ?_)
      · refine zj_iload d_M_fills_214 rfl ?_
        exact zj_zret rfl rfl rfl rfl d_M_fills_216
      refine zj_iload d_M_fills_90 rfl ?_
      refine zj_if_lt 122 d_M_fills_92 rfl (fun _ => ?_) (fun _ => ?_)
      · refine zj_aload_n d_M_fills_122 rfl ?_
        refine zj_getR fl_M_73 (fun _ _ _ _ => rfl) d_M_fills_123 (fun v11 => ?_)
        refine zj_iload_n d_M_fills_126 rfl ?_
        refine zj_iload d_M_fills_127 rfl ?_
        refine zj_iastore d_M_fills_129 (fun u12 => ?_)
        refine zj_aload_n d_M_fills_130 rfl ?_
        refine zj_iload_n d_M_fills_131 rfl ?_
        refine zj_iconst 1 d_M_fills_132 (by decide) ?_
        refine zj_iadd d_M_fills_133 ?_
        refine zj_iload d_M_fills_134 rfl ?_
        refine zj_jn1 (pcj := 149) (fun x13 => [some (zr g (some this)), some (.int a1), some (.int a2), some (.int a3), some (.int x8), some (.int x9), none]) (fun x13 => [.int x13, .int (a1 + 1), zr g (some this)]) (fun x13 => u12) (fun x13 => ?_) (fun j14 hj14 => ?_)
        · refine zj_iload d_M_fills_149 rfl ?_
          refine zj_jn1 (pcj := 172) (fun x15 => [some (zr g (some this)), some (.int a1), some (.int a2), some (.int a3), some (.int x8), some (.int x9), none]) (fun x15 => [.int x15, .int x13, .int (a1 + 1), zr g (some this)]) (fun x15 => u12) (fun x15 => ?_) (fun j16 hj16 => ?_)
          · refine zj_cVI (ci := 9) (T := zT9) (N := 53) [.int (a1 + 1), .int x13, .int x15] zm_V_M_fills ml_M_272 rfl (fun _ _ h => hrec_fills h) (Nat.le_refl _) ⟨Nat.zero_le _, Nat.zero_le _⟩ rfl rfl (by decide) d_M_fills_172 (fun v17 u18 => ?_)
            refine zj_istore [some (zr g (some this)), some (.int a1), some (.int a2), some (.int a3), some (.int x8), some (.int x9), some (.int v17)] d_M_fills_175 (by decide) rfl rfl ?_
            refine zj_iload d_M_fills_177 rfl ?_
            refine zj_jn1 (pcj := 192) (fun x20 => [some (zr g (some this)), some (.int a1), some (.int a2), some (.int a3), none, some (.int x9), none]) (fun x20 => [.int x20]) (fun x20 => u18) (fun x20 => ?_) (fun j21 hj21 => ?_)
            · refine zj_istore [some (zr g (some this)), some (.int a1), some (.int a2), some (.int a3), some (.int x20), some (.int x9), none] d_M_fills_192 (by decide) rfl rfl ?_
              refine zj_iload d_M_fills_194 rfl ?_
              refine zj_if_eq 208 d_M_fills_196 rfl (fun _ => ?_) (fun _ => ?_)
              · refine zj_iinc (v := (x9 + 1)) [some (zr g (some this)), some (.int a1), some (.int a2), some (.int a3), some (.int x20), some (.int (x9 + 1)), none] d_M_fills_208 rfl rfl (by decide) rfl rfl ?_
                refine zj_goto 81 d_M_fills_211 rfl ?_
                exact hr6 u18 x20 (x9 + 1)
              refine zj_aload_n d_M_fills_199 rfl ?_
              refine zj_getI fl_M_266 (fun _ _ _ _ => rfl) d_M_fills_200 (fun v22 => ?_)
              refine zj_if_ne 208 d_M_fills_203 rfl (fun _ => ?_) (fun _ => ?_)
              · refine zj_iinc (v := (x9 + 1)) [some (zr g (some this)), some (.int a1), some (.int a2), some (.int a3), some (.int x20), some (.int (x9 + 1)), none] d_M_fills_208 rfl rfl (by decide) rfl rfl ?_
                refine zj_goto 81 d_M_fills_211 rfl ?_
                exact hr6 u18 x20 (x9 + 1)
              refine zj_iconst 1 d_M_fills_206 (by decide) ?_
              exact zj_zretL (by decide) rfl rfl rfl rfl d_M_fills_207
            refine zj_if_ne 187 d_M_fills_179 rfl (fun _ => ?_) (fun _ => ?_)
            · refine zj_iconst 1 d_M_fills_187 (by decide) ?_
              refine zj_goto 192 d_M_fills_188 rfl ?_
              refine zj_cut [some (zr g (some this)), some (.int a1), some (.int a2), some (.int a3), none, some (.int x9), none] ⟨rfl, ⟨rfl, ⟨rfl, ⟨rfl, ⟨rfl, trivial⟩⟩⟩⟩⟩ ?_
              exact hj21 1
            refine zj_iload d_M_fills_182 rfl ?_
            refine zj_if_eq 191 d_M_fills_184 rfl (fun _ => ?_) (fun _ => ?_)
            · refine zj_iconst 0 d_M_fills_191 (by decide) ?_
              refine zj_cut [some (zr g (some this)), some (.int a1), some (.int a2), some (.int a3), none, some (.int x9), none] ⟨rfl, ⟨rfl, ⟨rfl, ⟨rfl, ⟨rfl, trivial⟩⟩⟩⟩⟩ ?_
              exact hj21 0
            refine zj_iconst 1 d_M_fills_187 (by decide) ?_
            refine zj_goto 192 d_M_fills_188 rfl ?_
            refine zj_cut [some (zr g (some this)), some (.int a1), some (.int a2), some (.int a3), none, some (.int x9), none] ⟨rfl, ⟨rfl, ⟨rfl, ⟨rfl, ⟨rfl, trivial⟩⟩⟩⟩⟩ ?_
            exact hj21 1
          refine zj_if_ge 158 d_M_fills_151 rfl (fun _ => ?_) (fun _ => ?_)
          · refine zj_iload_n d_M_fills_158 rfl ?_
            refine zj_aload_n d_M_fills_159 rfl ?_
            refine zj_getR fl_M_70 (fun _ _ _ _ => rfl) d_M_fills_160 (fun v23 => ?_)
            refine zj_bipush 6 d_M_fills_163 (by decide) ?_
            refine zj_iload d_M_fills_165 rfl ?_
            refine zj_imul d_M_fills_167 ?_
            refine zj_iload_n d_M_fills_168 rfl ?_
            refine zj_iadd d_M_fills_169 ?_
            refine zj_iaload d_M_fills_170 (fun v24 => ?_)
            refine zj_iadd d_M_fills_171 ?_
            exact hj16 (a3 + v24)
          refine zj_iload_n d_M_fills_154 rfl ?_
          refine zj_goto 172 d_M_fills_155 rfl ?_
          exact hj16 a3
        refine zj_if_ge 143 d_M_fills_136 rfl (fun _ => ?_) (fun _ => ?_)
        · refine zj_iload_n d_M_fills_143 rfl ?_
          refine zj_iconst 1 d_M_fills_144 (by decide) ?_
          refine zj_iload d_M_fills_145 rfl ?_
          refine zj_ishl d_M_fills_147 ?_
          refine zj_ior d_M_fills_148 ?_
          exact hj14 (a2 ||| ((1 : Int32) <<< (x9 &&& 31)))
        refine zj_iload_n d_M_fills_139 rfl ?_
        refine zj_goto 149 d_M_fills_140 rfl ?_
        exact hj14 a2
      refine zj_iload_n d_M_fills_95 rfl ?_
      refine zj_iload d_M_fills_96 rfl ?_
      refine zj_ishr d_M_fills_98 ?_
      refine zj_iconst 1 d_M_fills_99 (by decide) ?_
      refine zj_iand d_M_fills_100 ?_
      refine zj_iconst 1 d_M_fills_101 (by decide) ?_
      refine zj_icmp_eq 208 d_M_fills_102 rfl (fun _ => ?_) (fun _ => ?_)
      · refine zj_iinc (v := (x9 + 1)) [some (zr g (some this)), some (.int a1), some (.int a2), some (.int a3), some (.int x8), some (.int (x9 + 1)), none] d_M_fills_208 rfl rfl (by decide) rfl rfl ?_
        refine zj_goto 81 d_M_fills_211 rfl ?_
        exact hr6 u7 x8 (x9 + 1)
      refine zj_aload_n d_M_fills_105 rfl ?_
      refine zj_getR fl_M_67 (fun _ _ _ _ => rfl) d_M_fills_106 (fun v25 => ?_)
      refine zj_iload d_M_fills_109 rfl ?_
      refine zj_iaload d_M_fills_111 (fun v26 => ?_)
      refine zj_iload_n d_M_fills_112 rfl ?_
      refine zj_ishr d_M_fills_113 ?_
      refine zj_iconst 1 d_M_fills_114 (by decide) ?_
      refine zj_iand d_M_fills_115 ?_
      refine zj_if_ne 122 d_M_fills_116 rfl (fun _ => ?_) (fun _ => ?_)
      · refine zj_aload_n d_M_fills_122 rfl ?_
        refine zj_getR fl_M_73 (fun _ _ _ _ => rfl) d_M_fills_123 (fun v27 => ?_)
        refine zj_iload_n d_M_fills_126 rfl ?_
        refine zj_iload d_M_fills_127 rfl ?_
        refine zj_iastore d_M_fills_129 (fun u28 => ?_)
        refine zj_aload_n d_M_fills_130 rfl ?_
        refine zj_iload_n d_M_fills_131 rfl ?_
        refine zj_iconst 1 d_M_fills_132 (by decide) ?_
        refine zj_iadd d_M_fills_133 ?_
        refine zj_iload d_M_fills_134 rfl ?_
        refine zj_jn1 (pcj := 149) (fun x29 => [some (zr g (some this)), some (.int a1), some (.int a2), some (.int a3), some (.int x8), some (.int x9), none]) (fun x29 => [.int x29, .int (a1 + 1), zr g (some this)]) (fun x29 => u28) (fun x29 => ?_) (fun j30 hj30 => ?_)
        · refine zj_iload d_M_fills_149 rfl ?_
          refine zj_jn1 (pcj := 172) (fun x31 => [some (zr g (some this)), some (.int a1), some (.int a2), some (.int a3), some (.int x8), some (.int x9), none]) (fun x31 => [.int x31, .int x29, .int (a1 + 1), zr g (some this)]) (fun x31 => u28) (fun x31 => ?_) (fun j32 hj32 => ?_)
          · refine zj_cVI (ci := 9) (T := zT9) (N := 53) [.int (a1 + 1), .int x29, .int x31] zm_V_M_fills ml_M_272 rfl (fun _ _ h => hrec_fills h) (Nat.le_refl _) ⟨Nat.zero_le _, Nat.zero_le _⟩ rfl rfl (by decide) d_M_fills_172 (fun v33 u34 => ?_)
            refine zj_istore [some (zr g (some this)), some (.int a1), some (.int a2), some (.int a3), some (.int x8), some (.int x9), some (.int v33)] d_M_fills_175 (by decide) rfl rfl ?_
            refine zj_iload d_M_fills_177 rfl ?_
            refine zj_jn1 (pcj := 192) (fun x36 => [some (zr g (some this)), some (.int a1), some (.int a2), some (.int a3), none, some (.int x9), none]) (fun x36 => [.int x36]) (fun x36 => u34) (fun x36 => ?_) (fun j37 hj37 => ?_)
            · refine zj_istore [some (zr g (some this)), some (.int a1), some (.int a2), some (.int a3), some (.int x36), some (.int x9), none] d_M_fills_192 (by decide) rfl rfl ?_
              refine zj_iload d_M_fills_194 rfl ?_
              refine zj_if_eq 208 d_M_fills_196 rfl (fun _ => ?_) (fun _ => ?_)
              · refine zj_iinc (v := (x9 + 1)) [some (zr g (some this)), some (.int a1), some (.int a2), some (.int a3), some (.int x36), some (.int (x9 + 1)), none] d_M_fills_208 rfl rfl (by decide) rfl rfl ?_
                refine zj_goto 81 d_M_fills_211 rfl ?_
                exact hr6 u34 x36 (x9 + 1)
              refine zj_aload_n d_M_fills_199 rfl ?_
              refine zj_getI fl_M_266 (fun _ _ _ _ => rfl) d_M_fills_200 (fun v38 => ?_)
              refine zj_if_ne 208 d_M_fills_203 rfl (fun _ => ?_) (fun _ => ?_)
              · refine zj_iinc (v := (x9 + 1)) [some (zr g (some this)), some (.int a1), some (.int a2), some (.int a3), some (.int x36), some (.int (x9 + 1)), none] d_M_fills_208 rfl rfl (by decide) rfl rfl ?_
                refine zj_goto 81 d_M_fills_211 rfl ?_
                exact hr6 u34 x36 (x9 + 1)
              refine zj_iconst 1 d_M_fills_206 (by decide) ?_
              exact zj_zretL (by decide) rfl rfl rfl rfl d_M_fills_207
            refine zj_if_ne 187 d_M_fills_179 rfl (fun _ => ?_) (fun _ => ?_)
            · refine zj_iconst 1 d_M_fills_187 (by decide) ?_
              refine zj_goto 192 d_M_fills_188 rfl ?_
              refine zj_cut [some (zr g (some this)), some (.int a1), some (.int a2), some (.int a3), none, some (.int x9), none] ⟨rfl, ⟨rfl, ⟨rfl, ⟨rfl, ⟨rfl, trivial⟩⟩⟩⟩⟩ ?_
              exact hj37 1
            refine zj_iload d_M_fills_182 rfl ?_
            refine zj_if_eq 191 d_M_fills_184 rfl (fun _ => ?_) (fun _ => ?_)
            · refine zj_iconst 0 d_M_fills_191 (by decide) ?_
              refine zj_cut [some (zr g (some this)), some (.int a1), some (.int a2), some (.int a3), none, some (.int x9), none] ⟨rfl, ⟨rfl, ⟨rfl, ⟨rfl, ⟨rfl, trivial⟩⟩⟩⟩⟩ ?_
              exact hj37 0
            refine zj_iconst 1 d_M_fills_187 (by decide) ?_
            refine zj_goto 192 d_M_fills_188 rfl ?_
            refine zj_cut [some (zr g (some this)), some (.int a1), some (.int a2), some (.int a3), none, some (.int x9), none] ⟨rfl, ⟨rfl, ⟨rfl, ⟨rfl, ⟨rfl, trivial⟩⟩⟩⟩⟩ ?_
            exact hj37 1
          refine zj_if_ge 158 d_M_fills_151 rfl (fun _ => ?_) (fun _ => ?_)
          · refine zj_iload_n d_M_fills_158 rfl ?_
            refine zj_aload_n d_M_fills_159 rfl ?_
            refine zj_getR fl_M_70 (fun _ _ _ _ => rfl) d_M_fills_160 (fun v39 => ?_)
            refine zj_bipush 6 d_M_fills_163 (by decide) ?_
            refine zj_iload d_M_fills_165 rfl ?_
            refine zj_imul d_M_fills_167 ?_
            refine zj_iload_n d_M_fills_168 rfl ?_
            refine zj_iadd d_M_fills_169 ?_
            refine zj_iaload d_M_fills_170 (fun v40 => ?_)
            refine zj_iadd d_M_fills_171 ?_
            exact hj32 (a3 + v40)
          refine zj_iload_n d_M_fills_154 rfl ?_
          refine zj_goto 172 d_M_fills_155 rfl ?_
          exact hj32 a3
        refine zj_if_ge 143 d_M_fills_136 rfl (fun _ => ?_) (fun _ => ?_)
        · refine zj_iload_n d_M_fills_143 rfl ?_
          refine zj_iconst 1 d_M_fills_144 (by decide) ?_
          refine zj_iload d_M_fills_145 rfl ?_
          refine zj_ishl d_M_fills_147 ?_
          refine zj_ior d_M_fills_148 ?_
          exact hj30 (a2 ||| ((1 : Int32) <<< (x9 &&& 31)))
        refine zj_iload_n d_M_fills_139 rfl ?_
        refine zj_goto 149 d_M_fills_140 rfl ?_
        exact hj30 a2
      refine zj_goto 208 d_M_fills_119 rfl ?_
      refine zj_iinc (v := (x9 + 1)) [some (zr g (some this)), some (.int a1), some (.int a2), some (.int a3), some (.int x8), some (.int (x9 + 1)), none] d_M_fills_208 rfl rfl (by decide) rfl rfl ?_
      refine zj_goto 81 d_M_fills_211 rfl ?_
      exact hr6 u7 x8 (x9 + 1)
    refine zj_if_eq 78 d_M_fills_71 rfl (fun _ => ?_) (fun _ => ?_)
    · refine zj_iconst (-1) d_M_fills_78 (by decide) ?_
      exact hj5 (-1)
    refine zj_iconst 0 d_M_fills_74 (by decide) ?_
    refine zj_goto 79 d_M_fills_75 rfl ?_
    exact hj5 0
  refine zj_aload_n d_M_fills_8 rfl ?_
  refine zj_getI fl_M_266 (fun _ _ _ _ => rfl) d_M_fills_9 (fun v41 => ?_)
  refine zj_if_eq 60 d_M_fills_12 rfl (fun _ => ?_) (fun _ => ?_)
  · refine zj_iconst 1 d_M_fills_60 (by decide) ?_
    exact zj_zretL (by decide) rfl rfl rfl rfl d_M_fills_61
  refine zj_iload_n d_M_fills_15 rfl ?_
  refine zj_aload_n d_M_fills_16 rfl ?_
  refine zj_getI fl_M_269 (fun _ _ _ _ => rfl) d_M_fills_17 (fun v42 => ?_)
  refine zj_icmp_le 60 d_M_fills_20 rfl (fun _ => ?_) (fun _ => ?_)
  · refine zj_iconst 1 d_M_fills_60 (by decide) ?_
    exact zj_zretL (by decide) rfl rfl rfl rfl d_M_fills_61
  refine zj_aload_n d_M_fills_23 rfl ?_
  refine zj_iload_n d_M_fills_24 rfl ?_
  refine zj_putI fl_M_269 (fun _ _ _ _ => rfl) ⟨rfl, rfl⟩ d_M_fills_25 (fun u43 => ?_)
  refine zj_iconst 0 d_M_fills_28 (by decide) ?_
  refine zj_istore [some (zr g (some this)), some (.int a1), some (.int a2), some (.int a3), some (.int 0), none, none] d_M_fills_29 (by decide) rfl rfl ?_
  refine zj_cut [some (zr g (some this)), none, none, none, some (.int 0), none, none] ⟨rfl, ⟨rfl, trivial⟩⟩ ?_
  refine zj_fix2 (fun u45 x46 => [some (zr g (some this)), none, none, none, some (.int x46), none, none]) (fun u45 x46 => u45) (fun r44 hr44 u45 x46 => ?_) u43 0
  refine zj_iload d_M_fills_31 rfl ?_
  refine zj_aload_n d_M_fills_33 rfl ?_
  refine zj_getI fl_M_106 (fun _ _ _ _ => rfl) d_M_fills_34 (fun v47 => ?_)
  refine zj_icmp_ge 60 d_M_fills_37 rfl (fun _ => ?_) (fun _ => ?_)
  · refine zj_iconst 1 d_M_fills_60 (by decide) ?_
    exact zj_zretL (by decide) rfl rfl rfl rfl d_M_fills_61
  refine zj_aload_n d_M_fills_40 rfl ?_
  refine zj_getR fl_M_76 (fun _ _ _ _ => rfl) d_M_fills_41 (fun v48 => ?_)
  refine zj_iload d_M_fills_44 rfl ?_
  refine zj_aload_n d_M_fills_46 rfl ?_
  refine zj_getR fl_M_73 (fun _ _ _ _ => rfl) d_M_fills_47 (fun v49 => ?_)
  refine zj_iload d_M_fills_50 rfl ?_
  refine zj_iaload d_M_fills_52 (fun v50 => ?_)
  refine zj_iastore d_M_fills_53 (fun u51 => ?_)
  refine zj_iinc (v := (x46 + 1)) [some (zr g (some this)), none, none, none, some (.int (x46 + 1)), none, none] d_M_fills_54 rfl rfl (by decide) rfl rfl ?_
  refine zj_goto 31 d_M_fills_57 rfl ?_
  exact hr44 u51 (x46 + 1)
def GF : Nat → zS → Nat → Int32 → Int32 → Int32 → Option (Int32 × zS)
  | 0 => fun _ _ _ _ _ => none
  | n + 1 => F_M_fills (GF n)
theorem BG_all_GF (g : zG) (d : Nat) (hd : 1 ≤ d) : ∀ (n : Nat) {u0 : zS} {this : Nat} {a1 a2 a3 : Int32} {o : Int32 × zS}, GF n u0 this a1 a2 a3 = some o → zMt g zy_M_fills (n + d) 0 0 [zr g (some this), .int a1, .int a2, .int a3] u0 (some (.int o.1)) o.2
  | 0 => fun h => nomatch h
  | n + 1 => fun h => by
    rw [show n + 1 + d = n + d + 1 by omega]
    exact B_M_fills g (n + d) (by omega) (fun h => BG_all_GF g d hd n h) h
theorem BG_M_fills (g : zG) (d : Nat) {u0 : zS} {this : Nat} {a1 a2 a3 : Int32} {o : Int32 × zS} (h : GF 10 u0 this a1 a2 a3 = some o) : zMt g zy_M_fills (d + 12) 0 0 [zr g (some this), .int a1, .int a2, .int a3] u0 (some (.int o.1)) o.2 := by
  rw [show d + 12 = 10 + (d + 2) by omega]
  exact BG_all_GF g (d + 2) (by omega) 10 h
def F_M_held (u0 : zS) (a1 : Int32) (a2 : Int32) (a3 : Int32) : Option (Int32) := if a2 ≤ a1 then (if a1 ≤ a3 then (some a1) else (some a3)) else (some a2)
set_option maxHeartbeats 4000000 in
set_option maxRecDepth 100000 in
theorem B_M_held (g : zG) (d : Nat) {u0 : zS} {a1 : Int32} {a2 : Int32} {a3 : Int32} {o : Int32} (h : F_M_held u0 a1 a2 a3 = some o) : zMt g zy_M_held (d + 1) 0 0 [.int a1, .int a2, .int a3] u0 (some (.int o)) u0 := by
  refine zMt_of2 (ls := [some (.int a1), some (.int a2), some (.int a3)]) 0 (by decide +kernel) (by simp [lg_sl, zr_cat, zcI, zcJ]) (by simp [zal, zr_cat, zcI, zcJ, List.replicate]) ?_
  revert h
  show zJ g zy_M_held (d + 1) 0 0 (zwIp u0) o 0 0 0 [some (.int a1), some (.int a2), some (.int a3)] [] u0 (F_M_held u0 a1 a2 a3)
  unfold F_M_held
  refine zj_iload_n d_M_held_0 rfl ?_
  refine zj_iload_n d_M_held_1 rfl ?_
  refine zj_icmp_ge 9 d_M_held_2 rfl (fun _ => ?_) (fun _ => ?_)
  · refine zj_iload_n d_M_held_9 rfl ?_
    refine zj_iload_n d_M_held_10 rfl ?_
    refine zj_icmp_le 18 d_M_held_11 rfl (fun _ => ?_) (fun _ => ?_)
    · refine zj_iload_n d_M_held_18 rfl ?_
      exact zj_iret rfl rfl rfl rfl d_M_held_19
    refine zj_iload_n d_M_held_14 rfl ?_
    refine zj_goto 19 d_M_held_15 rfl ?_
    exact zj_iret rfl rfl rfl rfl d_M_held_19
  refine zj_iload_n d_M_held_5 rfl ?_
  refine zj_goto 19 d_M_held_6 rfl ?_
  exact zj_iret rfl rfl rfl rfl d_M_held_19
def F_M_image (u0 : zS) (this : Nat) : Option (Int32 × zS) := (zpZ u0 9 (some this) 41 1).bind fun u1 => (zgI u1 9 (some this) 4).bind fun v2 => (zpI u1 9 (some this) 42 v2).bind fun u3 => (zgI u3 9 (some this) 10).bind fun v4 => (zpI u3 9 (some this) 43 v4).bind fun u5 => (zgI u5 9 (some this) 17).bind fun v6 => (zpI u5 9 (some this) 44 v6).bind fun u7 => zfix2 (fun (r8 : zS → Int32 → Option (Int32 × zS)) (u9 : zS) (x10 : Int32) => if 42 ≤ x10 then (zfix2 (fun (r11 : zS → Int32 → Option (Int32 × zS)) (u12 : zS) (x13 : Int32) => if 7 ≤ x13 then ((zgI u12 9 (some this) 10).bind fun v14 => some (v14, u12)) else ((zgR u12 9 (some this) 48).bind fun v15 => (zgR u12 9 (some this) 9).bind fun v16 => (zaI u12 .int v16 x13).bind fun v17 => (zsI u12 v15 x13 v17).bind fun u18 => r11 u18 (x13 + 1))) zFU u9 0) else ((zgR u9 9 (some this) 45).bind fun v19 => (zgR u9 9 (some this) 11).bind fun v20 => (zaI u9 .int v20 x10).bind fun v21 => (zsI u9 v19 x10 v21).bind fun u22 => (zgR u22 9 (some this) 46).bind fun v23 => (zgR u22 9 (some this) 12).bind fun v24 => (zaI u22 .boolean v24 x10).bind fun v25 => (zsZ u22 v23 x10 v25).bind fun u26 => (zgR u26 9 (some this) 47).bind fun v27 => (zgR u26 9 (some this) 13).bind fun v28 => (zaI u26 .boolean v28 x10).bind fun v29 => (zsZ u26 v27 x10 v29).bind fun u30 => r8 u30 (x10 + 1))) zFU u7 0
set_option maxHeartbeats 4000000 in
set_option maxRecDepth 100000 in
theorem B_M_image (g : zG) (d : Nat) {u0 : zS} {this : Nat} {o : Int32 × zS} (h : F_M_image u0 this = some o) : zMt g zy_M_image (d + 1) 0 0 [zr g (some this)] u0 (some (.int o.1)) o.2 := by
  refine zMt_of2 (ls := [some (zr g (some this)), none]) 1 (by decide +kernel) (by simp [lg_sl, zr_cat, zcI, zcJ]) (by simp [zal, zr_cat, zcI, zcJ, List.replicate]) ?_
  revert h
  show zJ g zy_M_image (d + 1) 0 0 zwI o 0 0 0 [some (zr g (some this)), none] [] u0 (F_M_image u0 this)
  unfold F_M_image
  refine zj_aload_n d_M_image_0 rfl ?_
  refine zj_iconst 1 d_M_image_1 (by decide) ?_
  refine zj_putZ fl_M_342 d_M_image_2 (fun u1 => ?_)
  refine zj_aload_n d_M_image_5 rfl ?_
  refine zj_aload_n d_M_image_6 rfl ?_
  refine zj_getI fl_M_113 (fun _ _ _ _ => rfl) d_M_image_7 (fun v2 => ?_)
  refine zj_putI fl_M_345 (fun _ _ _ _ => rfl) ⟨rfl, rfl⟩ d_M_image_10 (fun u3 => ?_)
  refine zj_aload_n d_M_image_13 rfl ?_
  refine zj_aload_n d_M_image_14 rfl ?_
  refine zj_getI fl_M_130 (fun _ _ _ _ => rfl) d_M_image_15 (fun v4 => ?_)
  refine zj_putI fl_M_348 (fun _ _ _ _ => rfl) ⟨rfl, rfl⟩ d_M_image_18 (fun u5 => ?_)
  refine zj_aload_n d_M_image_21 rfl ?_
  refine zj_aload_n d_M_image_22 rfl ?_
  refine zj_getI fl_M_253 (fun _ _ _ _ => rfl) d_M_image_23 (fun v6 => ?_)
  refine zj_putI fl_M_351 (fun _ _ _ _ => rfl) ⟨rfl, rfl⟩ d_M_image_26 (fun u7 => ?_)
  refine zj_iconst 0 d_M_image_29 (by decide) ?_
  refine zj_istore_n [some (zr g (some this)), some (.int 0)] d_M_image_30 (by decide) rfl rfl ?_
  refine zj_fix2 (fun u9 x10 => [some (zr g (some this)), some (.int x10)]) (fun u9 x10 => u9) (fun r8 hr8 u9 x10 => ?_) u7 0
  refine zj_iload_n d_M_image_31 rfl ?_
  refine zj_bipush 42 d_M_image_32 (by decide) ?_
  refine zj_icmp_ge 79 d_M_image_34 rfl (fun _ => ?_) (fun _ => ?_)
  · refine zj_iconst 0 d_M_image_79 (by decide) ?_
    refine zj_istore_n [some (zr g (some this)), some (.int 0)] d_M_image_80 (by decide) rfl rfl ?_
    refine zj_fix2 (fun u12 x13 => [some (zr g (some this)), some (.int x13)]) (fun u12 x13 => u12) (fun r11 hr11 u12 x13 => ?_) u9 0
    refine zj_iload_n d_M_image_81 rfl ?_
    refine zj_bipush 7 d_M_image_82 (by decide) ?_
    refine zj_icmp_ge 105 d_M_image_84 rfl (fun _ => ?_) (fun _ => ?_)
    · refine zj_aload_n d_M_image_105 rfl ?_
      refine zj_getI fl_M_130 (fun _ _ _ _ => rfl) d_M_image_106 (fun v14 => ?_)
      exact zj_iret rfl rfl rfl rfl d_M_image_109
    refine zj_aload_n d_M_image_87 rfl ?_
    refine zj_getR fl_M_88 (fun _ _ _ _ => rfl) d_M_image_88 (fun v15 => ?_)
    refine zj_iload_n d_M_image_91 rfl ?_
    refine zj_aload_n d_M_image_92 rfl ?_
    refine zj_getR fl_M_33 (fun _ _ _ _ => rfl) d_M_image_93 (fun v16 => ?_)
    refine zj_iload_n d_M_image_96 rfl ?_
    refine zj_iaload d_M_image_97 (fun v17 => ?_)
    refine zj_iastore d_M_image_98 (fun u18 => ?_)
    refine zj_iinc (v := (x13 + 1)) [some (zr g (some this)), some (.int (x13 + 1))] d_M_image_99 rfl rfl (by decide) rfl rfl ?_
    refine zj_goto 81 d_M_image_102 rfl ?_
    exact hr11 u18 (x13 + 1)
  refine zj_aload_n d_M_image_37 rfl ?_
  refine zj_getR fl_M_79 (fun _ _ _ _ => rfl) d_M_image_38 (fun v19 => ?_)
  refine zj_iload_n d_M_image_41 rfl ?_
  refine zj_aload_n d_M_image_42 rfl ?_
  refine zj_getR fl_M_36 (fun _ _ _ _ => rfl) d_M_image_43 (fun v20 => ?_)
  refine zj_iload_n d_M_image_46 rfl ?_
  refine zj_iaload d_M_image_47 (fun v21 => ?_)
  refine zj_iastore d_M_image_48 (fun u22 => ?_)
  refine zj_aload_n d_M_image_49 rfl ?_
  refine zj_getR fl_M_82 (fun _ _ _ _ => rfl) d_M_image_50 (fun v23 => ?_)
  refine zj_iload_n d_M_image_53 rfl ?_
  refine zj_aload_n d_M_image_54 rfl ?_
  refine zj_getR fl_M_39 (fun _ _ _ _ => rfl) d_M_image_55 (fun v24 => ?_)
  refine zj_iload_n d_M_image_58 rfl ?_
  refine zj_zaload d_M_image_59 (fun v25 => ?_)
  refine zj_zastore d_M_image_60 (fun u26 => ?_)
  refine zj_aload_n d_M_image_61 rfl ?_
  refine zj_getR fl_M_85 (fun _ _ _ _ => rfl) d_M_image_62 (fun v27 => ?_)
  refine zj_iload_n d_M_image_65 rfl ?_
  refine zj_aload_n d_M_image_66 rfl ?_
  refine zj_getR fl_M_42 (fun _ _ _ _ => rfl) d_M_image_67 (fun v28 => ?_)
  refine zj_iload_n d_M_image_70 rfl ?_
  refine zj_zaload d_M_image_71 (fun v29 => ?_)
  refine zj_zastore d_M_image_72 (fun u30 => ?_)
  refine zj_iinc (v := (x10 + 1)) [some (zr g (some this)), some (.int (x10 + 1))] d_M_image_73 rfl rfl (by decide) rfl rfl ?_
  refine zj_goto 31 d_M_image_76 rfl ?_
  exact hr8 u30 (x10 + 1)
def F_M_in (u0 : zS) (a1 : Int64) (a2 : Int64) (a3 : Int64) : Option (Int32) := if (lg_cmp a1 a2) < 0 then (some 0) else (if 0 < (lg_cmp a1 a3) then (some 0) else (some 1))
set_option maxHeartbeats 4000000 in
set_option maxRecDepth 100000 in
theorem B_M_in (g : zG) (d : Nat) {u0 : zS} {a1 : Int64} {a2 : Int64} {a3 : Int64} {o : Int32} (h : F_M_in u0 a1 a2 a3 = some o) : zMt g zy_M_in (d + 1) 0 0 [.long a1, .long a2, .long a3] u0 (some (.int o)) u0 := by
  refine zMt_of2 (ls := [some (.long a1), none, some (.long a2), none, some (.long a3), none]) 0 (by decide +kernel) (by simp [lg_sl, zr_cat, zcI, zcJ]) (by simp [zal, zr_cat, zcI, zcJ, List.replicate]) ?_
  revert h
  show zJ g zy_M_in (d + 1) 0 0 (zwIp u0) o 0 0 0 [some (.long a1), none, some (.long a2), none, some (.long a3), none] [] u0 (F_M_in u0 a1 a2 a3)
  unfold F_M_in
  refine zj_lload_n d_M_in_0 rfl ?_
  refine zj_lload_n d_M_in_1 rfl ?_
  refine zj_lcmp d_M_in_2 ?_
  refine zj_if_lt 17 d_M_in_3 rfl (fun _ => ?_) (fun _ => ?_)
  · refine zj_iconst 0 d_M_in_17 (by decide) ?_
    exact zj_zretL (by decide) rfl rfl rfl rfl d_M_in_18
  refine zj_lload_n d_M_in_6 rfl ?_
  refine zj_lload d_M_in_7 rfl ?_
  refine zj_lcmp d_M_in_9 ?_
  refine zj_if_gt 17 d_M_in_10 rfl (fun _ => ?_) (fun _ => ?_)
  · refine zj_iconst 0 d_M_in_17 (by decide) ?_
    exact zj_zretL (by decide) rfl rfl rfl rfl d_M_in_18
  refine zj_iconst 1 d_M_in_13 (by decide) ?_
  refine zj_goto 18 d_M_in_14 rfl ?_
  exact zj_zretL (by decide) rfl rfl rfl rfl d_M_in_18
def F_M_isKey (u0 : zS) (this : Nat) (a1 : Int32) : Option (Int32) := (zgI u0 9 (some this) 27).bind fun v1 => if v1 = 0 then ((zgI u0 9 (some this) 24).bind fun v2 => if v2 = 3 then ((zgI u0 9 (some this) 25).bind fun v3 => if v3 = a1 then (some 1) else (some 0)) else (some 0)) else (some 0)
set_option maxHeartbeats 4000000 in
set_option maxRecDepth 100000 in
theorem B_M_isKey (g : zG) (d : Nat) {u0 : zS} {this : Nat} {a1 : Int32} {o : Int32} (h : F_M_isKey u0 this a1 = some o) : zMt g zy_M_isKey (d + 1) 0 0 [zr g (some this), .int a1] u0 (some (.int o)) u0 := by
  refine zMt_of2 (ls := [some (zr g (some this)), some (.int a1)]) 0 (by decide +kernel) (by simp [lg_sl, zr_cat, zcI, zcJ]) (by simp [zal, zr_cat, zcI, zcJ, List.replicate]) ?_
  revert h
  show zJ g zy_M_isKey (d + 1) 0 0 (zwIp u0) o 0 0 0 [some (zr g (some this)), some (.int a1)] [] u0 (F_M_isKey u0 this a1)
  unfold F_M_isKey
  refine zj_aload_n d_M_isKey_0 rfl ?_
  refine zj_getI fl_M_202 (fun _ _ _ _ => rfl) d_M_isKey_1 (fun v1 => ?_)
  refine zj_if_ne 27 d_M_isKey_4 rfl (fun _ => ?_) (fun _ => ?_)
  · refine zj_iconst 0 d_M_isKey_27 (by decide) ?_
    exact zj_zretL (by decide) rfl rfl rfl rfl d_M_isKey_28
  refine zj_aload_n d_M_isKey_7 rfl ?_
  refine zj_getI fl_M_183 (fun _ _ _ _ => rfl) d_M_isKey_8 (fun v2 => ?_)
  refine zj_iconst 3 d_M_isKey_11 (by decide) ?_
  refine zj_icmp_ne 27 d_M_isKey_12 rfl (fun _ => ?_) (fun _ => ?_)
  · refine zj_iconst 0 d_M_isKey_27 (by decide) ?_
    exact zj_zretL (by decide) rfl rfl rfl rfl d_M_isKey_28
  refine zj_aload_n d_M_isKey_15 rfl ?_
  refine zj_getI fl_M_193 (fun _ _ _ _ => rfl) d_M_isKey_16 (fun v3 => ?_)
  refine zj_iload_n d_M_isKey_19 rfl ?_
  refine zj_icmp_ne 27 d_M_isKey_20 rfl (fun _ => ?_) (fun _ => ?_)
  · refine zj_iconst 0 d_M_isKey_27 (by decide) ?_
    exact zj_zretL (by decide) rfl rfl rfl rfl d_M_isKey_28
  refine zj_iconst 1 d_M_isKey_23 (by decide) ?_
  refine zj_goto 28 d_M_isKey_24 rfl ?_
  exact zj_zretL (by decide) rfl rfl rfl rfl d_M_isKey_28
def F_M_isLesson (u0 : zS) (this : Nat) (a1 : Int32) : Option (Int32) := (zgI u0 9 (some this) 4).bind fun v1 => if v1 ≤ (a1 / 10) then (some 0) else ((zgI u0 9 (some this) 1).bind fun v2 => if v2 ≤ (a1 - a1 / 10 * 10) then (some 0) else ((zgR u0 9 (some this) 32).bind fun v3 => (zaI u0 .int v3 (a1 / 10)).bind fun v4 => if ((v4 >>> ((a1 - a1 / 10 * 10) &&& 31)) &&& 1) = 0 then ((zgR u0 9 (some this) 13).bind fun v5 => (zaI u0 .boolean v5 (((6 : Int32) * (a1 / 10)) + (a1 - a1 / 10 * 10))).bind fun v6 => if v6 = 0 then (some 1) else (some 0)) else (some 0)))
set_option maxHeartbeats 4000000 in
set_option maxRecDepth 100000 in
theorem B_M_isLesson (g : zG) (d : Nat) {u0 : zS} {this : Nat} {a1 : Int32} {o : Int32} (h : F_M_isLesson u0 this a1 = some o) : zMt g zy_M_isLesson (d + 1) 0 0 [zr g (some this), .int a1] u0 (some (.int o)) u0 := by
  refine zMt_of2 (ls := [some (zr g (some this)), some (.int a1), none, none]) 2 (by decide +kernel) (by simp [lg_sl, zr_cat, zcI, zcJ]) (by simp [zal, zr_cat, zcI, zcJ, List.replicate]) ?_
  revert h
  show zJ g zy_M_isLesson (d + 1) 0 0 (zwIp u0) o 0 0 0 [some (zr g (some this)), some (.int a1), none, none] [] u0 (F_M_isLesson u0 this a1)
  unfold F_M_isLesson
  refine zj_iload_n d_M_isLesson_0 rfl ?_
  refine zj_bipush 10 d_M_isLesson_1 (by decide) ?_
  refine zj_idiv d_M_isLesson_3 (by decide) ?_
  refine zj_istore_n [some (zr g (some this)), some (.int a1), some (.int (a1 / 10)), none] d_M_isLesson_4 (by decide) rfl rfl ?_
  refine zj_iload_n d_M_isLesson_5 rfl ?_
  refine zj_bipush 10 d_M_isLesson_6 (by decide) ?_
  refine zj_irem d_M_isLesson_8 (by decide) ?_
  refine zj_istore_n [some (zr g (some this)), some (.int a1), some (.int (a1 / 10)), some (.int (a1 - a1 / 10 * 10))] d_M_isLesson_9 (by decide) rfl rfl ?_
  refine zj_iload_n d_M_isLesson_10 rfl ?_
  refine zj_aload_n d_M_isLesson_11 rfl ?_
  refine zj_getI fl_M_113 (fun _ _ _ _ => rfl) d_M_isLesson_12 (fun v1 => ?_)
  refine zj_icmp_ge 57 d_M_isLesson_15 rfl (fun _ => ?_) (fun _ => ?_)
  · refine zj_iconst 0 d_M_isLesson_57 (by decide) ?_
    exact zj_zretL (by decide) rfl rfl rfl rfl d_M_isLesson_58
  refine zj_iload_n d_M_isLesson_18 rfl ?_
  refine zj_aload_n d_M_isLesson_19 rfl ?_
  refine zj_getI fl_M_106 (fun _ _ _ _ => rfl) d_M_isLesson_20 (fun v2 => ?_)
  refine zj_icmp_ge 57 d_M_isLesson_23 rfl (fun _ => ?_) (fun _ => ?_)
  · refine zj_iconst 0 d_M_isLesson_57 (by decide) ?_
    exact zj_zretL (by decide) rfl rfl rfl rfl d_M_isLesson_58
  refine zj_aload_n d_M_isLesson_26 rfl ?_
  refine zj_getR fl_M_67 (fun _ _ _ _ => rfl) d_M_isLesson_27 (fun v3 => ?_)
  refine zj_iload_n d_M_isLesson_30 rfl ?_
  refine zj_iaload d_M_isLesson_31 (fun v4 => ?_)
  refine zj_iload_n d_M_isLesson_32 rfl ?_
  refine zj_ishr d_M_isLesson_33 ?_
  refine zj_iconst 1 d_M_isLesson_34 (by decide) ?_
  refine zj_iand d_M_isLesson_35 ?_
  refine zj_if_ne 57 d_M_isLesson_36 rfl (fun _ => ?_) (fun _ => ?_)
  · refine zj_iconst 0 d_M_isLesson_57 (by decide) ?_
    exact zj_zretL (by decide) rfl rfl rfl rfl d_M_isLesson_58
  refine zj_aload_n d_M_isLesson_39 rfl ?_
  refine zj_getR fl_M_42 (fun _ _ _ _ => rfl) d_M_isLesson_40 (fun v5 => ?_)
  refine zj_bipush 6 d_M_isLesson_43 (by decide) ?_
  refine zj_iload_n d_M_isLesson_45 rfl ?_
  refine zj_imul d_M_isLesson_46 ?_
  refine zj_iload_n d_M_isLesson_47 rfl ?_
  refine zj_iadd d_M_isLesson_48 ?_
  refine zj_zaload d_M_isLesson_49 (fun v6 => ?_)
  refine zj_if_ne 57 d_M_isLesson_50 rfl (fun _ => ?_) (fun _ => ?_)
  · refine zj_iconst 0 d_M_isLesson_57 (by decide) ?_
    exact zj_zretL (by decide) rfl rfl rfl rfl d_M_isLesson_58
  refine zj_iconst 1 d_M_isLesson_53 (by decide) ?_
  refine zj_goto 58 d_M_isLesson_54 rfl ?_
  exact zj_zretL (by decide) rfl rfl rfl rfl d_M_isLesson_58
def F_M_isSign (u0 : zS) (this : Nat) (a1 : Int32) : Option (Int32) := (zgI u0 9 (some this) 27).bind fun v1 => if v1 = 0 then ((zgI u0 9 (some this) 24).bind fun v2 => if v2 = 4 then ((zgI u0 9 (some this) 25).bind fun v3 => if v3 = a1 then (some 1) else (some 0)) else (some 0)) else (some 0)
set_option maxHeartbeats 4000000 in
set_option maxRecDepth 100000 in
theorem B_M_isSign (g : zG) (d : Nat) {u0 : zS} {this : Nat} {a1 : Int32} {o : Int32} (h : F_M_isSign u0 this a1 = some o) : zMt g zy_M_isSign (d + 1) 0 0 [zr g (some this), .int a1] u0 (some (.int o)) u0 := by
  refine zMt_of2 (ls := [some (zr g (some this)), some (.int a1)]) 0 (by decide +kernel) (by simp [lg_sl, zr_cat, zcI, zcJ]) (by simp [zal, zr_cat, zcI, zcJ, List.replicate]) ?_
  revert h
  show zJ g zy_M_isSign (d + 1) 0 0 (zwIp u0) o 0 0 0 [some (zr g (some this)), some (.int a1)] [] u0 (F_M_isSign u0 this a1)
  unfold F_M_isSign
  refine zj_aload_n d_M_isSign_0 rfl ?_
  refine zj_getI fl_M_202 (fun _ _ _ _ => rfl) d_M_isSign_1 (fun v1 => ?_)
  refine zj_if_ne 27 d_M_isSign_4 rfl (fun _ => ?_) (fun _ => ?_)
  · refine zj_iconst 0 d_M_isSign_27 (by decide) ?_
    exact zj_zretL (by decide) rfl rfl rfl rfl d_M_isSign_28
  refine zj_aload_n d_M_isSign_7 rfl ?_
  refine zj_getI fl_M_183 (fun _ _ _ _ => rfl) d_M_isSign_8 (fun v2 => ?_)
  refine zj_iconst 4 d_M_isSign_11 (by decide) ?_
  refine zj_icmp_ne 27 d_M_isSign_12 rfl (fun _ => ?_) (fun _ => ?_)
  · refine zj_iconst 0 d_M_isSign_27 (by decide) ?_
    exact zj_zretL (by decide) rfl rfl rfl rfl d_M_isSign_28
  refine zj_aload_n d_M_isSign_15 rfl ?_
  refine zj_getI fl_M_193 (fun _ _ _ _ => rfl) d_M_isSign_16 (fun v3 => ?_)
  refine zj_iload_n d_M_isSign_19 rfl ?_
  refine zj_icmp_ne 27 d_M_isSign_20 rfl (fun _ => ?_) (fun _ => ?_)
  · refine zj_iconst 0 d_M_isSign_27 (by decide) ?_
    exact zj_zretL (by decide) rfl rfl rfl rfl d_M_isSign_28
  refine zj_iconst 1 d_M_isSign_23 (by decide) ?_
  refine zj_goto 28 d_M_isSign_24 rfl ?_
  exact zj_zretL (by decide) rfl rfl rfl rfl d_M_isSign_28
def F_M_isSignByte (u0 : zS) (a1 : Int32) : Option (Int32) := if a1 = 40 then (some 1) else (if a1 = 41 then (some 1) else (if a1 = 59 then (some 1) else (if a1 = 43 then (some 1) else (if a1 = 45 then (some 1) else (if a1 = 42 then (some 1) else (if a1 = 60 then (some 1) else (if a1 = 61 then (some 1) else (some 0))))))))
set_option maxHeartbeats 4000000 in
set_option maxRecDepth 100000 in
theorem B_M_isSignByte (g : zG) (d : Nat) {u0 : zS} {a1 : Int32} {o : Int32} (h : F_M_isSignByte u0 a1 = some o) : zMt g zy_M_isSignByte (d + 1) 0 0 [.int a1] u0 (some (.int o)) u0 := by
  refine zMt_of2 (ls := [some (.int a1)]) 0 (by decide +kernel) (by simp [lg_sl, zr_cat, zcI, zcJ]) (by simp [zal, zr_cat, zcI, zcJ, List.replicate]) ?_
  revert h
  show zJ g zy_M_isSignByte (d + 1) 0 0 (zwIp u0) o 0 0 0 [some (.int a1)] [] u0 (F_M_isSignByte u0 a1)
  unfold F_M_isSignByte
  refine zj_iload_n d_M_isSignByte_0 rfl ?_
  refine zj_bipush 40 d_M_isSignByte_1 (by decide) ?_
  refine zj_icmp_eq 48 d_M_isSignByte_3 rfl (fun _ => ?_) (fun _ => ?_)
  · refine zj_iconst 1 d_M_isSignByte_48 (by decide) ?_
    refine zj_goto 53 d_M_isSignByte_49 rfl ?_
    exact zj_zretL (by decide) rfl rfl rfl rfl d_M_isSignByte_53
  refine zj_iload_n d_M_isSignByte_6 rfl ?_
  refine zj_bipush 41 d_M_isSignByte_7 (by decide) ?_
  refine zj_icmp_eq 48 d_M_isSignByte_9 rfl (fun _ => ?_) (fun _ => ?_)
  · refine zj_iconst 1 d_M_isSignByte_48 (by decide) ?_
    refine zj_goto 53 d_M_isSignByte_49 rfl ?_
    exact zj_zretL (by decide) rfl rfl rfl rfl d_M_isSignByte_53
  refine zj_iload_n d_M_isSignByte_12 rfl ?_
  refine zj_bipush 59 d_M_isSignByte_13 (by decide) ?_
  refine zj_icmp_eq 48 d_M_isSignByte_15 rfl (fun _ => ?_) (fun _ => ?_)
  · refine zj_iconst 1 d_M_isSignByte_48 (by decide) ?_
    refine zj_goto 53 d_M_isSignByte_49 rfl ?_
    exact zj_zretL (by decide) rfl rfl rfl rfl d_M_isSignByte_53
  refine zj_iload_n d_M_isSignByte_18 rfl ?_
  refine zj_bipush 43 d_M_isSignByte_19 (by decide) ?_
  refine zj_icmp_eq 48 d_M_isSignByte_21 rfl (fun _ => ?_) (fun _ => ?_)
  · refine zj_iconst 1 d_M_isSignByte_48 (by decide) ?_
    refine zj_goto 53 d_M_isSignByte_49 rfl ?_
    exact zj_zretL (by decide) rfl rfl rfl rfl d_M_isSignByte_53
  refine zj_iload_n d_M_isSignByte_24 rfl ?_
  refine zj_bipush 45 d_M_isSignByte_25 (by decide) ?_
  refine zj_icmp_eq 48 d_M_isSignByte_27 rfl (fun _ => ?_) (fun _ => ?_)
  · refine zj_iconst 1 d_M_isSignByte_48 (by decide) ?_
    refine zj_goto 53 d_M_isSignByte_49 rfl ?_
    exact zj_zretL (by decide) rfl rfl rfl rfl d_M_isSignByte_53
  refine zj_iload_n d_M_isSignByte_30 rfl ?_
  refine zj_bipush 42 d_M_isSignByte_31 (by decide) ?_
  refine zj_icmp_eq 48 d_M_isSignByte_33 rfl (fun _ => ?_) (fun _ => ?_)
  · refine zj_iconst 1 d_M_isSignByte_48 (by decide) ?_
    refine zj_goto 53 d_M_isSignByte_49 rfl ?_
    exact zj_zretL (by decide) rfl rfl rfl rfl d_M_isSignByte_53
  refine zj_iload_n d_M_isSignByte_36 rfl ?_
  refine zj_bipush 60 d_M_isSignByte_37 (by decide) ?_
  refine zj_icmp_eq 48 d_M_isSignByte_39 rfl (fun _ => ?_) (fun _ => ?_)
  · refine zj_iconst 1 d_M_isSignByte_48 (by decide) ?_
    refine zj_goto 53 d_M_isSignByte_49 rfl ?_
    exact zj_zretL (by decide) rfl rfl rfl rfl d_M_isSignByte_53
  refine zj_iload_n d_M_isSignByte_42 rfl ?_
  refine zj_bipush 61 d_M_isSignByte_43 (by decide) ?_
  refine zj_icmp_ne 52 d_M_isSignByte_45 rfl (fun _ => ?_) (fun _ => ?_)
  · refine zj_iconst 0 d_M_isSignByte_52 (by decide) ?_
    exact zj_zretL (by decide) rfl rfl rfl rfl d_M_isSignByte_53
  refine zj_iconst 1 d_M_isSignByte_48 (by decide) ?_
  refine zj_goto 53 d_M_isSignByte_49 rfl ?_
  exact zj_zretL (by decide) rfl rfl rfl rfl d_M_isSignByte_53
def F_M_keeps (u0 : zS) (this : Nat) (a1 : Int32) : Option (Int32) := (zgR u0 9 (some this) 5).bind fun v1 => (zaI u0 .int v1 a1).bind fun v2 => if v2 = 2 then ((zgR u0 9 (some this) 7).bind fun v4 => (zaI u0 .int v4 a1).bind fun v5 => some ((2 : Int32) + v5)) else if v2 = 3 then (some 3) else if v2 = 4 then ((zgR u0 9 (some this) 7).bind fun v8 => (zaI u0 .int v8 a1).bind fun v9 => some ((2 : Int32) + v9)) else if v2 = 5 then (some 1) else (some 2)
set_option maxHeartbeats 4000000 in
set_option maxRecDepth 100000 in
theorem B_M_keeps (g : zG) (d : Nat) {u0 : zS} {this : Nat} {a1 : Int32} {o : Int32} (h : F_M_keeps u0 this a1 = some o) : zMt g zy_M_keeps (d + 1) 0 0 [zr g (some this), .int a1] u0 (some (.int o)) u0 := by
  refine zMt_of2 (ls := [some (zr g (some this)), some (.int a1)]) 0 (by decide +kernel) (by simp [lg_sl, zr_cat, zcI, zcJ]) (by simp [zal, zr_cat, zcI, zcJ, List.replicate]) ?_
  revert h
  show zJ g zy_M_keeps (d + 1) 0 0 (zwIp u0) o 0 0 0 [some (zr g (some this)), some (.int a1)] [] u0 (F_M_keeps u0 this a1)
  unfold F_M_keeps
  refine zj_aload_n d_M_keeps_0 rfl ?_
  refine zj_getR fl_M_21 (fun _ _ _ _ => rfl) d_M_keeps_1 (fun v1 => ?_)
  refine zj_iload_n d_M_keeps_4 rfl ?_
  refine zj_iaload d_M_keeps_5 (fun v2 => ?_)
  refine zj_tsw 2 (2) 36 d_M_keeps_6 (by decide) (by decide) (by decide) rfl rfl (fun _ => ?_) (fun h3 => ?_)
  · refine zj_iconst 2 d_M_keeps_36 (by decide) ?_
    refine zj_aload_n d_M_keeps_37 rfl ?_
    refine zj_getR fl_M_27 (fun _ _ _ _ => rfl) d_M_keeps_38 (fun v4 => ?_)
    refine zj_iload_n d_M_keeps_41 rfl ?_
    refine zj_iaload d_M_keeps_42 (fun v5 => ?_)
    refine zj_iadd d_M_keeps_43 ?_
    exact zj_iret rfl rfl rfl rfl d_M_keeps_44
  refine zj_tsw 3 (3) 45 d_M_keeps_6 (by decide) (by decide) (by decide) rfl rfl (fun _ => ?_) (fun h6 => ?_)
  · refine zj_iconst 3 d_M_keeps_45 (by decide) ?_
    exact zj_iret rfl rfl rfl rfl d_M_keeps_46
  refine zj_tsw 4 (4) 36 d_M_keeps_6 (by decide) (by decide) (by decide) rfl rfl (fun _ => ?_) (fun h7 => ?_)
  · refine zj_iconst 2 d_M_keeps_36 (by decide) ?_
    refine zj_aload_n d_M_keeps_37 rfl ?_
    refine zj_getR fl_M_27 (fun _ _ _ _ => rfl) d_M_keeps_38 (fun v8 => ?_)
    refine zj_iload_n d_M_keeps_41 rfl ?_
    refine zj_iaload d_M_keeps_42 (fun v9 => ?_)
    refine zj_iadd d_M_keeps_43 ?_
    exact zj_iret rfl rfl rfl rfl d_M_keeps_44
  refine zj_tsw 5 (5) 47 d_M_keeps_6 (by decide) (by decide) (by decide) rfl rfl (fun _ => ?_) (fun h10 => ?_)
  · refine zj_iconst 1 d_M_keeps_47 (by decide) ?_
    exact zj_iret rfl rfl rfl rfl d_M_keeps_48
  refine zj_tswD 49 d_M_keeps_6 (by have e0 := lv_neT h3 (show (2 : Int32).toInt = 2 by decide); have e1 := lv_neT h6 (show (3 : Int32).toInt = 3 by decide); have e2 := lv_neT h7 (show (4 : Int32).toInt = 4 by decide); have e3 := lv_neT h10 (show (5 : Int32).toInt = 5 by decide); omega) rfl ?_
  refine zj_iconst 2 d_M_keeps_49 (by decide) ?_
  exact zj_iret rfl rfl rfl rfl d_M_keeps_50
def F_M_lay (u0 : zS) (this : Nat) (a1 : Int32) : Option (zS) := (zgR u0 9 (some this) 18).bind fun v1 => (zgI u0 9 (some this) 21).bind fun v2 => (zsI u0 v1 v2 a1).bind fun u3 => (zgI u3 9 (some this) 21).bind fun v4 => (zpI u3 9 (some this) 21 (v4 + 1)).bind fun u5 => some u5
set_option maxHeartbeats 4000000 in
set_option maxRecDepth 100000 in
theorem B_M_lay (g : zG) (d : Nat) {u0 : zS} {this : Nat} {a1 : Int32} {o : zS} (h : F_M_lay u0 this a1 = some o) : zMt g zy_M_lay (d + 1) 0 0 [zr g (some this), .int a1] u0 none o := by
  refine zMt_of2 (ls := [some (zr g (some this)), some (.int a1)]) 0 (by decide +kernel) (by simp [lg_sl, zr_cat, zcI, zcJ]) (by simp [zal, zr_cat, zcI, zcJ, List.replicate]) ?_
  revert h
  show zJ g zy_M_lay (d + 1) 0 0 zwV o 0 0 0 [some (zr g (some this)), some (.int a1)] [] u0 (F_M_lay u0 this a1)
  unfold F_M_lay
  refine zj_aload_n d_M_lay_0 rfl ?_
  refine zj_getR fl_M_48 (fun _ _ _ _ => rfl) d_M_lay_1 (fun v1 => ?_)
  refine zj_aload_n d_M_lay_4 rfl ?_
  refine zj_getI fl_M_209 (fun _ _ _ _ => rfl) d_M_lay_5 (fun v2 => ?_)
  refine zj_iload_n d_M_lay_8 rfl ?_
  refine zj_iastore d_M_lay_9 (fun u3 => ?_)
  refine zj_aload_n d_M_lay_10 rfl ?_
  refine zj_dup d_M_lay_11 (zr_cat _ _) ?_
  refine zj_getI fl_M_209 (fun _ _ _ _ => rfl) d_M_lay_12 (fun v4 => ?_)
  refine zj_iconst 1 d_M_lay_15 (by decide) ?_
  refine zj_iadd d_M_lay_16 ?_
  refine zj_putI fl_M_209 (fun _ _ _ _ => rfl) ⟨rfl, rfl⟩ d_M_lay_17 (fun u5 => ?_)
  exact zj_vret rfl rfl rfl rfl d_M_lay_20
def F_M_learns (u0 : zS) (this : Nat) (a1 : Int32) (a2 : Int32) : Option (zS) := zlet (((1 : Int32) <<< ((a1 - a1 / 10 * 10) &&& 31)) : Int32) fun x1 => (zgR u0 9 (some this) 32).bind fun v2 => if a2 = 0 then ((zgR u0 9 (some this) 32).bind fun v3 => (zaI u0 .int v3 (a1 / 10)).bind fun v4 => (zsI u0 v2 (a1 / 10) (v4 &&& (x1 ^^^ (-1)))).bind fun u5 => some u5) else ((zgR u0 9 (some this) 32).bind fun v6 => (zaI u0 .int v6 (a1 / 10)).bind fun v7 => (zsI u0 v2 (a1 / 10) (v7 ||| x1)).bind fun u8 => some u8)
set_option maxHeartbeats 4000000 in
set_option maxRecDepth 100000 in
theorem B_M_learns (g : zG) (d : Nat) {u0 : zS} {this : Nat} {a1 : Int32} {a2 : Int32} {o : zS} (h : F_M_learns u0 this a1 a2 = some o) : zMt g zy_M_learns (d + 1) 0 0 [zr g (some this), .int a1, .int a2] u0 none o := by
  refine zMt_of2 (ls := [some (zr g (some this)), some (.int a1), some (.int a2), none]) 1 (by decide +kernel) (by simp [lg_sl, zr_cat, zcI, zcJ]) (by simp [zal, zr_cat, zcI, zcJ, List.replicate]) ?_
  revert h
  show zJ g zy_M_learns (d + 1) 0 0 zwV o 0 0 0 [some (zr g (some this)), some (.int a1), some (.int a2), none] [] u0 (F_M_learns u0 this a1 a2)
  unfold F_M_learns
  refine zj_iconst 1 d_M_learns_0 (by decide) ?_
  refine zj_iload_n d_M_learns_1 rfl ?_
  refine zj_bipush 10 d_M_learns_2 (by decide) ?_
  refine zj_irem d_M_learns_4 (by decide) ?_
  refine zj_ishl d_M_learns_5 ?_
  refine zj_letI (fun x1 => ?_)
  refine zj_istore_n [some (zr g (some this)), some (.int a1), some (.int a2), some (.int x1)] d_M_learns_6 (by decide) rfl rfl ?_
  refine zj_aload_n d_M_learns_7 rfl ?_
  refine zj_getR fl_M_67 (fun _ _ _ _ => rfl) d_M_learns_8 (fun v2 => ?_)
  refine zj_iload_n d_M_learns_11 rfl ?_
  refine zj_bipush 10 d_M_learns_12 (by decide) ?_
  refine zj_idiv d_M_learns_14 (by decide) ?_
  refine zj_iload_n d_M_learns_15 rfl ?_
  refine zj_if_eq 33 d_M_learns_16 rfl (fun _ => ?_) (fun _ => ?_)
  · refine zj_aload_n d_M_learns_33 rfl ?_
    refine zj_getR fl_M_67 (fun _ _ _ _ => rfl) d_M_learns_34 (fun v3 => ?_)
    refine zj_iload_n d_M_learns_37 rfl ?_
    refine zj_bipush 10 d_M_learns_38 (by decide) ?_
    refine zj_idiv d_M_learns_40 (by decide) ?_
    refine zj_iaload d_M_learns_41 (fun v4 => ?_)
    refine zj_iload_n d_M_learns_42 rfl ?_
    refine zj_iconst (-1) d_M_learns_43 (by decide) ?_
    refine zj_ixor d_M_learns_44 ?_
    refine zj_iand d_M_learns_45 ?_
    refine zj_iastore d_M_learns_46 (fun u5 => ?_)
    exact zj_vret rfl rfl rfl rfl d_M_learns_47
  refine zj_aload_n d_M_learns_19 rfl ?_
  refine zj_getR fl_M_67 (fun _ _ _ _ => rfl) d_M_learns_20 (fun v6 => ?_)
  refine zj_iload_n d_M_learns_23 rfl ?_
  refine zj_bipush 10 d_M_learns_24 (by decide) ?_
  refine zj_idiv d_M_learns_26 (by decide) ?_
  refine zj_iaload d_M_learns_27 (fun v7 => ?_)
  refine zj_iload_n d_M_learns_28 rfl ?_
  refine zj_ior d_M_learns_29 ?_
  refine zj_goto 46 d_M_learns_30 rfl ?_
  refine zj_iastore d_M_learns_46 (fun u8 => ?_)
  exact zj_vret rfl rfl rfl rfl d_M_learns_47
def F_M_over (u0 : zS) (a1 : Int32) : Option (Int32) := if a1 = 3 then (some 1) else (if a1 = 4 then (some 2) else (some 0))
set_option maxHeartbeats 4000000 in
set_option maxRecDepth 100000 in
theorem B_M_over (g : zG) (d : Nat) {u0 : zS} {a1 : Int32} {o : Int32} (h : F_M_over u0 a1 = some o) : zMt g zy_M_over (d + 1) 0 0 [.int a1] u0 (some (.int o)) u0 := by
  refine zMt_of2 (ls := [some (.int a1)]) 0 (by decide +kernel) (by simp [lg_sl, zr_cat, zcI, zcJ]) (by simp [zal, zr_cat, zcI, zcJ, List.replicate]) ?_
  revert h
  show zJ g zy_M_over (d + 1) 0 0 (zwIp u0) o 0 0 0 [some (.int a1)] [] u0 (F_M_over u0 a1)
  unfold F_M_over
  refine zj_iload_n d_M_over_0 rfl ?_
  refine zj_iconst 3 d_M_over_1 (by decide) ?_
  refine zj_icmp_ne 9 d_M_over_2 rfl (fun _ => ?_) (fun _ => ?_)
  · refine zj_iload_n d_M_over_9 rfl ?_
    refine zj_iconst 4 d_M_over_10 (by decide) ?_
    refine zj_icmp_ne 18 d_M_over_11 rfl (fun _ => ?_) (fun _ => ?_)
    · refine zj_iconst 0 d_M_over_18 (by decide) ?_
      exact zj_iret rfl rfl rfl rfl d_M_over_19
    refine zj_iconst 2 d_M_over_14 (by decide) ?_
    refine zj_goto 19 d_M_over_15 rfl ?_
    exact zj_iret rfl rfl rfl rfl d_M_over_19
  refine zj_iconst 1 d_M_over_5 (by decide) ?_
  refine zj_goto 19 d_M_over_6 rfl ?_
  exact zj_iret rfl rfl rfl rfl d_M_over_19
def F_M_partOf (u0 : zS) (a1 : Int64) (a2 : Int64) (a3 : Int32) : Option (Int64) := zfix2 (fun (r1 : Int64 → Int64 → Option (Int64)) (x2 : Int64) (x3 : Int64) => if (lg_cmp x3 0) = 0 then (if a3 = 0 then (if x2 = 0 then none else some (a1 / x2)) else (if x2 = 0 then none else some (a2 / x2))) else (if x3 = 0 then none else r1 x3 (x2 - x2 / x3 * x3))) zFU a1 a2
set_option maxHeartbeats 4000000 in
set_option maxRecDepth 100000 in
theorem B_M_partOf (g : zG) (d : Nat) {u0 : zS} {a1 : Int64} {a2 : Int64} {a3 : Int32} {o : Int64} (h : F_M_partOf u0 a1 a2 a3 = some o) : zMt g zy_M_partOf (d + 1) 0 0 [.long a1, .long a2, .int a3] u0 (some (.long o)) u0 := by
  refine zMt_of2 (ls := [some (.long a1), none, some (.long a2), none, some (.int a3), none, none, none, none, none, none]) 6 (by decide +kernel) (by simp [lg_sl, zr_cat, zcI, zcJ]) (by simp [zal, zr_cat, zcI, zcJ, List.replicate]) ?_
  revert h
  show zJ g zy_M_partOf (d + 1) 0 0 (zwJp u0) o 0 0 0 [some (.long a1), none, some (.long a2), none, some (.int a3), none, none, none, none, none, none] [] u0 (F_M_partOf u0 a1 a2 a3)
  unfold F_M_partOf
  refine zj_lload_n d_M_partOf_0 rfl ?_
  refine zj_lstore [some (.long a1), none, some (.long a2), none, some (.int a3), some (.long a1), none, none, none, none, none] d_M_partOf_1 (by decide) rfl rfl ?_
  refine zj_lload_n d_M_partOf_3 rfl ?_
  refine zj_lstore [some (.long a1), none, some (.long a2), none, some (.int a3), some (.long a1), none, some (.long a2), none, none, none] d_M_partOf_4 (by decide) rfl rfl ?_
  refine zj_fix2 (fun x2 x3 => [some (.long a1), none, some (.long a2), none, some (.int a3), some (.long x2), none, some (.long x3), none, none, none]) (fun x2 x3 => u0) (fun r1 hr1 x2 x3 => ?_) a1 a2
  refine zj_lload d_M_partOf_6 rfl ?_
  refine zj_lconst 0 d_M_partOf_8 (by decide) ?_
  refine zj_lcmp d_M_partOf_9 ?_
  refine zj_if_eq 31 d_M_partOf_10 rfl (fun _ => ?_) (fun _ => ?_)
  · refine zj_iload d_M_partOf_31 rfl ?_
    refine zj_if_ne 43 d_M_partOf_33 rfl (fun _ => ?_) (fun _ => ?_)
    · refine zj_lload_n d_M_partOf_43 rfl ?_
      refine zj_lload d_M_partOf_44 rfl ?_
      refine zj_ldivQ d_M_partOf_46 ?_
      exact zj_lret rfl rfl rfl rfl d_M_partOf_47
    refine zj_lload_n d_M_partOf_36 rfl ?_
    refine zj_lload d_M_partOf_37 rfl ?_
    refine zj_ldivQ d_M_partOf_39 ?_
    refine zj_goto 47 d_M_partOf_40 rfl ?_
    exact zj_lret rfl rfl rfl rfl d_M_partOf_47
  refine zj_lload d_M_partOf_13 rfl ?_
  refine zj_lload d_M_partOf_15 rfl ?_
  refine zj_lremQ d_M_partOf_17 ?_
  refine zj_lstore [some (.long a1), none, some (.long a2), none, some (.int a3), some (.long x2), none, some (.long x3), none, some (.long (x2 - x2 / x3 * x3)), none] d_M_partOf_18 (by decide) rfl rfl ?_
  refine zj_lload d_M_partOf_20 rfl ?_
  refine zj_lstore [some (.long a1), none, some (.long a2), none, some (.int a3), some (.long x3), none, some (.long x3), none, some (.long (x2 - x2 / x3 * x3)), none] d_M_partOf_22 (by decide) rfl rfl ?_
  refine zj_lload d_M_partOf_24 rfl ?_
  refine zj_lstore [some (.long a1), none, some (.long a2), none, some (.int a3), some (.long x3), none, some (.long (x2 - x2 / x3 * x3)), none, some (.long (x2 - x2 / x3 * x3)), none] d_M_partOf_26 (by decide) rfl rfl ?_
  refine zj_goto 6 d_M_partOf_28 rfl ?_
  refine zj_cut [some (.long a1), none, some (.long a2), none, some (.int a3), some (.long x3), none, some (.long (x2 - x2 / x3 * x3)), none, none, none] ⟨rfl, ⟨rfl, ⟨rfl, ⟨rfl, ⟨rfl, trivial⟩⟩⟩⟩⟩ ?_
  exact hr1 x3 (x2 - x2 / x3 * x3)
