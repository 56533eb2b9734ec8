def F_X_commonDivisor (u0 : zS) (a1 : Int64) (a2 : Int64) : Option (Int64) := zfix3 (fun (r1 : Int64 → Int64 → Int32 → Option (Int64)) (x2 : Int64) (x3 : Int64) (x4 : Int32) => if 100 ≤ x4 then (some x2) else (if (lg_cmp x3 0) = 0 then (some x2) else (if x3 = 0 then none else r1 x3 (x2 - x2 / x3 * x3) (x4 + 1)))) zFU a1 a2 0
set_option maxHeartbeats 4000000 in
set_option maxRecDepth 100000 in
theorem B_X_commonDivisor (g : zG) (d : Nat) {u0 : zS} {a1 : Int64} {a2 : Int64} {o : Int64} (h : F_X_commonDivisor u0 a1 a2 = some o) : zMt g zy_X_commonDivisor (d + 1) 0 0 [.long a1, .long a2] u0 (some (.long o)) u0 := by
  refine zMt_of2 (ls := [some (.long a1), none, some (.long a2), none, none, none, none]) 3 (by decide +kernel) (by simp [lg_sl, zr_cat, zcI, zcJ]) (by simp [zal, zr_cat, zcI, zcJ, List.replicate]) ?_
  revert h
  show zJ g zy_X_commonDivisor (d + 1) 0 0 (zwJp u0) o 0 0 0 [some (.long a1), none, some (.long a2), none, none, none, none] [] u0 (F_X_commonDivisor u0 a1 a2)
  unfold F_X_commonDivisor
  refine zj_iconst 0 d_X_commonDivisor_0 (by decide) ?_
  refine zj_istore [some (.long a1), none, some (.long a2), none, some (.int 0), none, none] d_X_commonDivisor_1 (by decide) rfl rfl ?_
  refine zj_fix3 (fun x2 x3 x4 => [some (.long x2), none, some (.long x3), none, some (.int x4), none, none]) (fun x2 x3 x4 => u0) (fun r1 hr1 x2 x3 x4 => ?_) a1 a2 0
  refine zj_iload d_X_commonDivisor_3 rfl ?_
  refine zj_bipush 100 d_X_commonDivisor_5 (by decide) ?_
  refine zj_icmp_ge 32 d_X_commonDivisor_7 rfl (fun _ => ?_) (fun _ => ?_)
  · refine zj_lload_n d_X_commonDivisor_32 rfl ?_
    exact zj_lret rfl rfl rfl rfl d_X_commonDivisor_33
  refine zj_lload_n d_X_commonDivisor_10 rfl ?_
  refine zj_lconst 0 d_X_commonDivisor_11 (by decide) ?_
  refine zj_lcmp d_X_commonDivisor_12 ?_
  refine zj_if_eq 32 d_X_commonDivisor_13 rfl (fun _ => ?_) (fun _ => ?_)
  · refine zj_lload_n d_X_commonDivisor_32 rfl ?_
    exact zj_lret rfl rfl rfl rfl d_X_commonDivisor_33
  refine zj_lload_n d_X_commonDivisor_16 rfl ?_
  refine zj_lload_n d_X_commonDivisor_17 rfl ?_
  refine zj_lremQ d_X_commonDivisor_18 ?_
  refine zj_lstore [some (.long x2), none, some (.long x3), none, some (.int x4), some (.long (x2 - x2 / x3 * x3)), none] d_X_commonDivisor_19 (by decide) rfl rfl ?_
  refine zj_lload_n d_X_commonDivisor_21 rfl ?_
  refine zj_lstore_n [some (.long x3), none, some (.long x3), none, some (.int x4), some (.long (x2 - x2 / x3 * x3)), none] d_X_commonDivisor_22 (by decide) rfl rfl ?_
  refine zj_lload d_X_commonDivisor_23 rfl ?_
  refine zj_lstore_n [some (.long x3), none, some (.long (x2 - x2 / x3 * x3)), none, some (.int x4), some (.long (x2 - x2 / x3 * x3)), none] d_X_commonDivisor_25 (by decide) rfl rfl ?_
  refine zj_iinc (v := (x4 + 1)) [some (.long x3), none, some (.long (x2 - x2 / x3 * x3)), none, some (.int (x4 + 1)), some (.long (x2 - x2 / x3 * x3)), none] d_X_commonDivisor_26 rfl rfl (by decide) rfl rfl ?_
  refine zj_goto 3 d_X_commonDivisor_29 rfl ?_
  refine zj_cut [some (.long x3), none, some (.long (x2 - x2 / x3 * x3)), none, some (.int (x4 + 1)), none, none] ⟨rfl, ⟨rfl, ⟨rfl, trivial⟩⟩⟩ ?_
  exact hr1 x3 (x2 - x2 / x3 * x3) (x4 + 1)
def F_X_everyone (u0 : zS) (this : Nat) : Option (Int32) := (zgI u0 8 (some this) 2).bind fun v1 => some (((1 : Int32) <<< (v1 &&& 31)) - 1)
set_option maxHeartbeats 4000000 in
set_option maxRecDepth 100000 in
theorem B_X_everyone (g : zG) (d : Nat) {u0 : zS} {this : Nat} {o : Int32} (h : F_X_everyone u0 this = some o) : zMt g zy_X_everyone (d + 1) 0 0 [zr g (some this)] u0 (some (.int o)) u0 := by
  refine zMt_of2 (ls := [some (zr g (some this))]) 0 (by decide +kernel) (by simp [lg_sl, zr_cat, zcI, zcJ]) (by simp [zal, zr_cat, zcI, zcJ, List.replicate]) ?_
  revert h
  show zJ g zy_X_everyone (d + 1) 0 0 (zwIp u0) o 0 0 0 [some (zr g (some this))] [] u0 (F_X_everyone u0 this)
  unfold F_X_everyone
  refine zj_iconst 1 d_X_everyone_0 (by decide) ?_
  refine zj_aload_n d_X_everyone_1 rfl ?_
  refine zj_getI fl_X_22 (fun _ _ _ _ => rfl) d_X_everyone_2 (fun v1 => ?_)
  refine zj_ishl d_X_everyone_5 ?_
  refine zj_iconst 1 d_X_everyone_6 (by decide) ?_
  refine zj_isub d_X_everyone_7 ?_
  exact zj_iret rfl rfl rfl rfl d_X_everyone_8
def F_X_force (u0 : zS) (this : Nat) (a1 : Int32) : Option (Int32 × zS) := if a1 < 0 then (some ((-2), u0)) else ((zgI u0 8 (some this) 5).bind fun v1 => if a1 < v1 then ((zgI u0 8 (some this) 6).bind fun v2 => (zpI u0 8 (some this) 6 a1).bind fun u3 => some (v2, u3)) else (some ((-2), u0)))
set_option maxHeartbeats 4000000 in
set_option maxRecDepth 100000 in
theorem B_X_force (g : zG) (d : Nat) {u0 : zS} {this : Nat} {a1 : Int32} {o : Int32 × zS} (h : F_X_force u0 this a1 = some o) : zMt g zy_X_force (d + 1) 0 0 [zr g (some this), .int a1] u0 (some (.int o.1)) o.2 := by
  refine zMt_of2 (ls := [some (zr g (some this)), some (.int a1), none]) 1 (by decide +kernel) (by simp [lg_sl, zr_cat, zcI, zcJ]) (by simp [zal, zr_cat, zcI, zcJ, List.replicate]) ?_
  revert h
  show zJ g zy_X_force (d + 1) 0 0 zwI o 0 0 0 [some (zr g (some this)), some (.int a1), none] [] u0 (F_X_force u0 this a1)
  unfold F_X_force
  refine zj_iload_n d_X_force_0 rfl ?_
  refine zj_if_lt 12 d_X_force_1 rfl (fun _ => ?_) (fun _ => ?_)
  · refine zj_bipush (-2) d_X_force_12 (by decide) ?_
    exact zj_iret rfl rfl rfl rfl d_X_force_14
  refine zj_iload_n d_X_force_4 rfl ?_
  refine zj_aload_n d_X_force_5 rfl ?_
  refine zj_getI fl_X_32 (fun _ _ _ _ => rfl) d_X_force_6 (fun v1 => ?_)
  refine zj_icmp_lt 15 d_X_force_9 rfl (fun _ => ?_) (fun _ => ?_)
  · refine zj_aload_n d_X_force_15 rfl ?_
    refine zj_getI fl_X_35 (fun _ _ _ _ => rfl) d_X_force_16 (fun v2 => ?_)
    refine zj_istore_n [some (zr g (some this)), some (.int a1), some (.int v2)] d_X_force_19 (by decide) rfl rfl ?_
    refine zj_aload_n d_X_force_20 rfl ?_
    refine zj_iload_n d_X_force_21 rfl ?_
    refine zj_putI fl_X_35 (fun _ _ _ _ => rfl) ⟨rfl, rfl⟩ d_X_force_22 (fun u3 => ?_)
    refine zj_iload_n d_X_force_25 rfl ?_
    exact zj_iret rfl rfl rfl rfl d_X_force_26
  refine zj_bipush (-2) d_X_force_12 (by decide) ?_
  exact zj_iret rfl rfl rfl rfl d_X_force_14
def F_X_isFlag (u0 : zS) (a1 : Int32) : Option (Int32) := if a1 = 0 then (some 1) else (if a1 = 1 then (some 1) else (some 0))
set_option maxHeartbeats 4000000 in
set_option maxRecDepth 100000 in
theorem B_X_isFlag (g : zG) (d : Nat) {u0 : zS} {a1 : Int32} {o : Int32} (h : F_X_isFlag u0 a1 = some o) : zMt g zy_X_isFlag (d + 1) 0 0 [.int a1] u0 (some (.int o)) u0 := by
  refine zMt_of2 (ls := [some (.int a1)]) 0 (by decide +kernel) (by simp [lg_sl, zr_cat, zcI, zcJ]) (by simp [zal, zr_cat, zcI, zcJ, List.replicate]) ?_
  revert h
  show zJ g zy_X_isFlag (d + 1) 0 0 (zwIp u0) o 0 0 0 [some (.int a1)] [] u0 (F_X_isFlag u0 a1)
  unfold F_X_isFlag
  refine zj_iload_n d_X_isFlag_0 rfl ?_
  refine zj_if_eq 9 d_X_isFlag_1 rfl (fun _ => ?_) (fun _ => ?_)
  · refine zj_iconst 1 d_X_isFlag_9 (by decide) ?_
    refine zj_goto 14 d_X_isFlag_10 rfl ?_
    exact zj_zretL (by decide) rfl rfl rfl rfl d_X_isFlag_14
  refine zj_iload_n d_X_isFlag_4 rfl ?_
  refine zj_iconst 1 d_X_isFlag_5 (by decide) ?_
  refine zj_icmp_ne 13 d_X_isFlag_6 rfl (fun _ => ?_) (fun _ => ?_)
  · refine zj_iconst 0 d_X_isFlag_13 (by decide) ?_
    exact zj_zretL (by decide) rfl rfl rfl rfl d_X_isFlag_14
  refine zj_iconst 1 d_X_isFlag_9 (by decide) ?_
  refine zj_goto 14 d_X_isFlag_10 rfl ?_
  exact zj_zretL (by decide) rfl rfl rfl rfl d_X_isFlag_14
def F_X_isPerson (u0 : zS) (this : Nat) (a1 : Int32) : Option (Int32) := if a1 < 0 then (some 0) else ((zgI u0 8 (some this) 2).bind fun v1 => if v1 ≤ a1 then (some 0) else (some 1))
set_option maxHeartbeats 4000000 in
set_option maxRecDepth 100000 in
theorem B_X_isPerson (g : zG) (d : Nat) {u0 : zS} {this : Nat} {a1 : Int32} {o : Int32} (h : F_X_isPerson u0 this a1 = some o) : zMt g zy_X_isPerson (d + 1) 0 0 [zr g (some this), .int a1] u0 (some (.int o)) u0 := by
  refine zMt_of2 (ls := [some (zr g (some this)), some (.int a1)]) 0 (by decide +kernel) (by simp [lg_sl, zr_cat, zcI, zcJ]) (by simp [zal, zr_cat, zcI, zcJ, List.replicate]) ?_
  revert h
  show zJ g zy_X_isPerson (d + 1) 0 0 (zwIp u0) o 0 0 0 [some (zr g (some this)), some (.int a1)] [] u0 (F_X_isPerson u0 this a1)
  unfold F_X_isPerson
  refine zj_iload_n d_X_isPerson_0 rfl ?_
  refine zj_if_lt 16 d_X_isPerson_1 rfl (fun _ => ?_) (fun _ => ?_)
  · refine zj_iconst 0 d_X_isPerson_16 (by decide) ?_
    exact zj_zretL (by decide) rfl rfl rfl rfl d_X_isPerson_17
  refine zj_iload_n d_X_isPerson_4 rfl ?_
  refine zj_aload_n d_X_isPerson_5 rfl ?_
  refine zj_getI fl_X_22 (fun _ _ _ _ => rfl) d_X_isPerson_6 (fun v1 => ?_)
  refine zj_icmp_ge 16 d_X_isPerson_9 rfl (fun _ => ?_) (fun _ => ?_)
  · refine zj_iconst 0 d_X_isPerson_16 (by decide) ?_
    exact zj_zretL (by decide) rfl rfl rfl rfl d_X_isPerson_17
  refine zj_iconst 1 d_X_isPerson_12 (by decide) ?_
  refine zj_goto 17 d_X_isPerson_13 rfl ?_
  exact zj_zretL (by decide) rfl rfl rfl rfl d_X_isPerson_17
def F_X_isSheet (u0 : zS) (a1 : Int32) : Option (Int32) := if a1 < 0 then (some 0) else (if 4 ≤ a1 then (some 0) else (some 1))
set_option maxHeartbeats 4000000 in
set_option maxRecDepth 100000 in
theorem B_X_isSheet (g : zG) (d : Nat) {u0 : zS} {a1 : Int32} {o : Int32} (h : F_X_isSheet u0 a1 = some o) : zMt g zy_X_isSheet (d + 1) 0 0 [.int a1] u0 (some (.int o)) u0 := by
  refine zMt_of2 (ls := [some (.int a1)]) 0 (by decide +kernel) (by simp [lg_sl, zr_cat, zcI, zcJ]) (by simp [zal, zr_cat, zcI, zcJ, List.replicate]) ?_
  revert h
  show zJ g zy_X_isSheet (d + 1) 0 0 (zwIp u0) o 0 0 0 [some (.int a1)] [] u0 (F_X_isSheet u0 a1)
  unfold F_X_isSheet
  refine zj_iload_n d_X_isSheet_0 rfl ?_
  refine zj_if_lt 13 d_X_isSheet_1 rfl (fun _ => ?_) (fun _ => ?_)
  · refine zj_iconst 0 d_X_isSheet_13 (by decide) ?_
    exact zj_zretL (by decide) rfl rfl rfl rfl d_X_isSheet_14
  refine zj_iload_n d_X_isSheet_4 rfl ?_
  refine zj_iconst 4 d_X_isSheet_5 (by decide) ?_
  refine zj_icmp_ge 13 d_X_isSheet_6 rfl (fun _ => ?_) (fun _ => ?_)
  · refine zj_iconst 0 d_X_isSheet_13 (by decide) ?_
    exact zj_zretL (by decide) rfl rfl rfl rfl d_X_isSheet_14
  refine zj_iconst 1 d_X_isSheet_9 (by decide) ?_
  refine zj_goto 14 d_X_isSheet_10 rfl ?_
  exact zj_zretL (by decide) rfl rfl rfl rfl d_X_isSheet_14
def F_X_tenthsOf (u0 : zS) (this : Nat) (a1 : Int32) : Option (Int64) := zfix2 (fun (r1 : Int64 → Int32 → Option (Int64)) (x2 : Int64) (x3 : Int32) => (zgI u0 8 (some this) 2).bind fun v4 => if v4 ≤ x3 then (some x2) else (if ((a1 >>> (x3 &&& 31)) &&& 1) = 1 then ((zgR u0 8 (some this) 1).bind fun v9 => (zaR u0 "PostsFilled$Person" v9 x3).bind fun v10 => (zgI u0 3 v10 3).bind fun v11 => zlet ((x2 * ((v11 : Int32).toInt64)) : Int64) fun x12 => r1 x12 (x3 + 1)) else ((zgR u0 8 (some this) 1).bind fun v5 => (zaR u0 "PostsFilled$Person" v5 x3).bind fun v6 => (zgI u0 3 v6 3).bind fun v7 => zlet ((x2 * ((((10 : Int32) - v7) : Int32).toInt64)) : Int64) fun x8 => r1 x8 (x3 + 1)))) zFU 1 0
set_option maxHeartbeats 4000000 in
set_option maxRecDepth 100000 in
theorem B_X_tenthsOf (g : zG) (d : Nat) {u0 : zS} {this : Nat} {a1 : Int32} {o : Int64} (h : F_X_tenthsOf u0 this a1 = some o) : zMt g zy_X_tenthsOf (d + 1) 0 0 [zr g (some this), .int a1] u0 (some (.long o)) u0 := by
  refine zMt_of2 (ls := [some (zr g (some this)), some (.int a1), none, none, none]) 3 (by decide +kernel) (by simp [lg_sl, zr_cat, zcI, zcJ]) (by simp [zal, zr_cat, zcI, zcJ, List.replicate]) ?_
  revert h
  show zJ g zy_X_tenthsOf (d + 1) 0 0 (zwJp u0) o 0 0 0 [some (zr g (some this)), some (.int a1), none, none, none] [] u0 (F_X_tenthsOf u0 this a1)
  unfold F_X_tenthsOf
  refine zj_lconst 1 d_X_tenthsOf_0 (by decide) ?_
  refine zj_lstore_n [some (zr g (some this)), some (.int a1), some (.long 1), none, none] d_X_tenthsOf_1 (by decide) rfl rfl ?_
  refine zj_iconst 0 d_X_tenthsOf_2 (by decide) ?_
  refine zj_istore [some (zr g (some this)), some (.int a1), some (.long 1), none, some (.int 0)] d_X_tenthsOf_3 (by decide) rfl rfl ?_
  refine zj_fix2 (fun x2 x3 => [some (zr g (some this)), some (.int a1), some (.long x2), none, some (.int x3)]) (fun x2 x3 => u0) (fun r1 hr1 x2 x3 => ?_) 1 0
  refine zj_iload d_X_tenthsOf_5 rfl ?_
  refine zj_aload_n d_X_tenthsOf_7 rfl ?_
  refine zj_getI fl_X_22 (fun _ _ _ _ => rfl) d_X_tenthsOf_8 (fun v4 => ?_)
  refine zj_icmp_ge 61 d_X_tenthsOf_11 rfl (fun _ => ?_) (fun _ => ?_)
  · refine zj_lload_n d_X_tenthsOf_61 rfl ?_
    exact zj_lret rfl rfl rfl rfl d_X_tenthsOf_62
  refine zj_lload_n d_X_tenthsOf_14 rfl ?_
  refine zj_iload_n d_X_tenthsOf_15 rfl ?_
  refine zj_iload d_X_tenthsOf_16 rfl ?_
  refine zj_ishr d_X_tenthsOf_18 ?_
  refine zj_iconst 1 d_X_tenthsOf_19 (by decide) ?_
  refine zj_iand d_X_tenthsOf_20 ?_
  refine zj_iconst 1 d_X_tenthsOf_21 (by decide) ?_
  refine zj_icmp_ne 39 d_X_tenthsOf_22 rfl (fun _ => ?_) (fun _ => ?_)
  · refine zj_bipush 10 d_X_tenthsOf_39 (by decide) ?_
    refine zj_aload_n d_X_tenthsOf_41 rfl ?_
    refine zj_getR fl_X_18 (fun _ _ _ _ => rfl) d_X_tenthsOf_42 (fun v5 => ?_)
    refine zj_iload d_X_tenthsOf_45 rfl ?_
    refine zj_aaload 4 rfl d_X_tenthsOf_47 (fun v6 => ?_)
    refine zj_getI fl_X_157 (fun _ _ _ _ => rfl) d_X_tenthsOf_48 (fun v7 => ?_)
    refine zj_isub d_X_tenthsOf_51 ?_
    refine zj_i2l d_X_tenthsOf_52 ?_
    refine zj_lmul d_X_tenthsOf_53 ?_
    refine zj_letJ (fun x8 => ?_)
    refine zj_lstore_n [some (zr g (some this)), some (.int a1), some (.long x8), none, some (.int x3)] d_X_tenthsOf_54 (by decide) rfl rfl ?_
    refine zj_iinc (v := (x3 + 1)) [some (zr g (some this)), some (.int a1), some (.long x8), none, some (.int (x3 + 1))] d_X_tenthsOf_55 rfl rfl (by decide) rfl rfl ?_
    refine zj_goto 5 d_X_tenthsOf_58 rfl ?_
    exact hr1 x8 (x3 + 1)
  refine zj_aload_n d_X_tenthsOf_25 rfl ?_
  refine zj_getR fl_X_18 (fun _ _ _ _ => rfl) d_X_tenthsOf_26 (fun v9 => ?_)
  refine zj_iload d_X_tenthsOf_29 rfl ?_
  refine zj_aaload 4 rfl d_X_tenthsOf_31 (fun v10 => ?_)
  refine zj_getI fl_X_157 (fun _ _ _ _ => rfl) d_X_tenthsOf_32 (fun v11 => ?_)
  refine zj_i2l d_X_tenthsOf_35 ?_
  refine zj_goto 53 d_X_tenthsOf_36 rfl ?_
  refine zj_lmul d_X_tenthsOf_53 ?_
  refine zj_letJ (fun x12 => ?_)
  refine zj_lstore_n [some (zr g (some this)), some (.int a1), some (.long x12), none, some (.int x3)] d_X_tenthsOf_54 (by decide) rfl rfl ?_
  refine zj_iinc (v := (x3 + 1)) [some (zr g (some this)), some (.int a1), some (.long x12), none, some (.int (x3 + 1))] d_X_tenthsOf_55 rfl rfl (by decide) rfl rfl ?_
  refine zj_goto 5 d_X_tenthsOf_58 rfl ?_
  exact hr1 x12 (x3 + 1)
def F_X_years (u0 : zS) (this : Nat) (a1 : Int32) : Option (Int32 × zS) := if a1 < 1 then (some ((-2), u0)) else (if a1 ≤ 9 then ((zgR u0 8 (some this) 0).bind fun v1 => (zgI u0 2 v1 3).bind fun v2 => if (v2 + a1) ≤ 99 then ((zgR u0 8 (some this) 0).bind fun v3 => (zgI u0 2 v3 3).bind fun v4 => (zpI u0 2 v3 3 (v4 + a1)).bind fun u5 => (zgR u5 8 (some this) 0).bind fun v6 => (zgI u5 2 v6 3).bind fun v7 => some (v7, u5)) else (some ((-4), u0))) else (some ((-2), u0)))
set_option maxHeartbeats 4000000 in
set_option maxRecDepth 100000 in
theorem B_X_years (g : zG) (d : Nat) {u0 : zS} {this : Nat} {a1 : Int32} {o : Int32 × zS} (h : F_X_years u0 this a1 = some o) : zMt g zy_X_years (d + 1) 0 0 [zr g (some this), .int a1] u0 (some (.int o.1)) o.2 := by
  refine zMt_of2 (ls := [some (zr g (some this)), some (.int a1)]) 0 (by decide +kernel) (by simp [lg_sl, zr_cat, zcI, zcJ]) (by simp [zal, zr_cat, zcI, zcJ, List.replicate]) ?_
  revert h
  show zJ g zy_X_years (d + 1) 0 0 zwI o 0 0 0 [some (zr g (some this)), some (.int a1)] [] u0 (F_X_years u0 this a1)
  unfold F_X_years
  refine zj_iload_n d_X_years_0 rfl ?_
  refine zj_iconst 1 d_X_years_1 (by decide) ?_
  refine zj_icmp_lt 11 d_X_years_2 rfl (fun _ => ?_) (fun _ => ?_)
  · refine zj_bipush (-2) d_X_years_11 (by decide) ?_
    exact zj_iret rfl rfl rfl rfl d_X_years_13
  refine zj_iload_n d_X_years_5 rfl ?_
  refine zj_bipush 9 d_X_years_6 (by decide) ?_
  refine zj_icmp_le 14 d_X_years_8 rfl (fun _ => ?_) (fun _ => ?_)
  · refine zj_aload_n d_X_years_14 rfl ?_
    refine zj_getR fl_X_10 (fun _ _ _ _ => rfl) d_X_years_15 (fun v1 => ?_)
    refine zj_getI fl_X_126 (fun _ _ _ _ => rfl) d_X_years_18 (fun v2 => ?_)
    refine zj_iload_n d_X_years_21 rfl ?_
    refine zj_iadd d_X_years_22 ?_
    refine zj_bipush 99 d_X_years_23 (by decide) ?_
    refine zj_icmp_le 31 d_X_years_25 rfl (fun _ => ?_) (fun _ => ?_)
    · refine zj_aload_n d_X_years_31 rfl ?_
      refine zj_getR fl_X_10 (fun _ _ _ _ => rfl) d_X_years_32 (fun v3 => ?_)
      refine zj_dup d_X_years_35 (zr_cat _ _) ?_
      refine zj_getI fl_X_126 (fun _ _ _ _ => rfl) d_X_years_36 (fun v4 => ?_)
      refine zj_iload_n d_X_years_39 rfl ?_
      refine zj_iadd d_X_years_40 ?_
      refine zj_putI fl_X_126 (fun _ _ _ _ => rfl) ⟨rfl, rfl⟩ d_X_years_41 (fun u5 => ?_)
      refine zj_aload_n d_X_years_44 rfl ?_
      refine zj_getR fl_X_10 (fun _ _ _ _ => rfl) d_X_years_45 (fun v6 => ?_)
      refine zj_getI fl_X_126 (fun _ _ _ _ => rfl) d_X_years_48 (fun v7 => ?_)
      exact zj_iret rfl rfl rfl rfl d_X_years_51
    refine zj_bipush (-4) d_X_years_28 (by decide) ?_
    exact zj_iret rfl rfl rfl rfl d_X_years_30
  refine zj_bipush (-2) d_X_years_11 (by decide) ?_
  exact zj_iret rfl rfl rfl rfl d_X_years_13
def F_Course_init (u0 : zS) (this : Nat) : Option (zS) := (zpI u0 0 (some this) 0 0).bind fun u1 => (znw u1 (.inl (.int, 42))).bind <| zk fun a2 u3 => (zpR u3 0 (some this) 1 (some a2)).bind fun u4 => (znw u4 (.inl (.int, 42))).bind <| zk fun a5 u6 => (zpR u6 0 (some this) 2 (some a5)).bind fun u7 => (znw u7 (.inl (.long, 42))).bind <| zk fun a8 u9 => (zpR u9 0 (some this) 3 (some a8)).bind fun u10 => (zpI u10 0 (some this) 4 0).bind fun u11 => (zpI u11 0 (some this) 5 0).bind fun u12 => (zpI u12 0 (some this) 6 0).bind fun u13 => some u13
set_option maxHeartbeats 4000000 in
set_option maxRecDepth 100000 in
theorem B_Course_init (g : zG) (d : Nat) {u0 : zS} {this : Nat} {o : zS} (h : F_Course_init u0 this = some o) : zMt g zy_Course_init (d + 1) 3 126 [zr g (some this)] u0 none o := by
  refine zMt_of2 (ls := [some (zr g (some this))]) 0 (by decide +kernel) (by simp [lg_sl, zr_cat, zcI, zcJ]) (by simp [zal, zr_cat, zcI, zcJ, List.replicate]) ?_
  revert h
  show zJ g zy_Course_init (d + 1) 3 126 zwV o 0 0 0 [some (zr g (some this))] [] u0 (F_Course_init u0 this)
  unfold F_Course_init
  refine zj_aload_n d_Course_init_0 rfl ?_
  refine zj_objInit ⟨_, rfl⟩ oi_Course_3 oi_i oi_c (by omega) (by decide) d_Course_init_1 ?_
  refine zj_aload_n d_Course_init_4 rfl ?_
  refine zj_iconst 0 d_Course_init_5 (by decide) ?_
  refine zj_putI fl_Course_9 (fun _ _ _ _ => rfl) ⟨rfl, rfl⟩ d_Course_init_6 (fun u1 => ?_)
  refine zj_aload_n d_Course_init_9 rfl ?_
  refine zj_bipush 42 d_Course_init_10 (by decide) ?_
  refine zj_newa (N := 42) 0 rfl rfl (by simp) ac_I (by decide) (by decide) (by decide) (by decide) d_Course_init_12 (fun a2 u3 => ?_)
  refine zj_putFR fl_Course_15 ⟨rfl, rfl⟩ (fun _ _ _ _ => rfl) (znfA _) d_Course_init_14 (fun u4 => ?_)
  refine zj_aload_n d_Course_init_17 rfl ?_
  refine zj_bipush 42 d_Course_init_18 (by decide) ?_
  refine zj_newa (N := 42) 0 rfl rfl (by simp) ac_I (by decide) (by decide) (by decide) (by decide) d_Course_init_20 (fun a5 u6 => ?_)
  refine zj_putFR fl_Course_19 ⟨rfl, rfl⟩ (fun _ _ _ _ => rfl) (znfA _) d_Course_init_22 (fun u7 => ?_)
  refine zj_aload_n d_Course_init_25 rfl ?_
  refine zj_bipush 42 d_Course_init_26 (by decide) ?_
  refine zj_newa (N := 42) 3 rfl rfl (by simp) ac_J (by decide) (by decide) (by decide) (by decide) d_Course_init_28 (fun a8 u9 => ?_)
  refine zj_putFR fl_Course_22 ⟨rfl, rfl⟩ (fun _ _ _ _ => rfl) (znfA _) d_Course_init_30 (fun u10 => ?_)
  refine zj_aload_n d_Course_init_33 rfl ?_
  refine zj_iconst 0 d_Course_init_34 (by decide) ?_
  refine zj_putI fl_Course_26 (fun _ _ _ _ => rfl) ⟨rfl, rfl⟩ d_Course_init_35 (fun u11 => ?_)
  refine zj_aload_n d_Course_init_38 rfl ?_
  refine zj_iconst 0 d_Course_init_39 (by decide) ?_
  refine zj_putI fl_Course_29 (fun _ _ _ _ => rfl) ⟨rfl, rfl⟩ d_Course_init_40 (fun u12 => ?_)
  refine zj_aload_n d_Course_init_43 rfl ?_
  refine zj_iconst 0 d_Course_init_44 (by decide) ?_
  refine zj_putI fl_Course_32 (fun _ _ _ _ => rfl) ⟨rfl, rfl⟩ d_Course_init_45 (fun u13 => ?_)
  exact zj_vret rfl rfl rfl rfl d_Course_init_48
def F_Course_clear (u0 : zS) (this : Nat) : Option (zS) := (zpI u0 0 (some this) 0 0).bind fun u1 => (zpI u1 0 (some this) 4 0).bind fun u2 => (zpI u2 0 (some this) 5 0).bind fun u3 => (zpI u3 0 (some this) 6 0).bind fun u4 => some u4
set_option maxHeartbeats 4000000 in
set_option maxRecDepth 100000 in
theorem B_Course_clear (g : zG) (d : Nat) {u0 : zS} {this : Nat} {o : zS} (h : F_Course_clear u0 this = some o) : zMt g zy_Course_clear (d + 1) 0 0 [zr g (some this)] u0 none o := by
  refine zMt_of2 (ls := [some (zr g (some this))]) 0 (by decide +kernel) (by simp [lg_sl, zr_cat, zcI, zcJ]) (by simp [zal, zr_cat, zcI, zcJ, List.replicate]) ?_
  revert h
  show zJ g zy_Course_clear (d + 1) 0 0 zwV o 0 0 0 [some (zr g (some this))] [] u0 (F_Course_clear u0 this)
  unfold F_Course_clear
  refine zj_aload_n d_Course_clear_0 rfl ?_
  refine zj_iconst 0 d_Course_clear_1 (by decide) ?_
  refine zj_putI fl_Course_9 (fun _ _ _ _ => rfl) ⟨rfl, rfl⟩ d_Course_clear_2 (fun u1 => ?_)
  refine zj_aload_n d_Course_clear_5 rfl ?_
  refine zj_iconst 0 d_Course_clear_6 (by decide) ?_
  refine zj_putI fl_Course_26 (fun _ _ _ _ => rfl) ⟨rfl, rfl⟩ d_Course_clear_7 (fun u2 => ?_)
  refine zj_aload_n d_Course_clear_10 rfl ?_
  refine zj_iconst 0 d_Course_clear_11 (by decide) ?_
  refine zj_putI fl_Course_29 (fun _ _ _ _ => rfl) ⟨rfl, rfl⟩ d_Course_clear_12 (fun u3 => ?_)
  refine zj_aload_n d_Course_clear_15 rfl ?_
  refine zj_iconst 0 d_Course_clear_16 (by decide) ?_
  refine zj_putI fl_Course_32 (fun _ _ _ _ => rfl) ⟨rfl, rfl⟩ d_Course_clear_17 (fun u4 => ?_)
  exact zj_vret rfl rfl rfl rfl d_Course_clear_20
def F_Course_keepCheaper (u0 : zS) (this : Nat) (a1 : Int32) (a2 : Int32) (a3 : Int32) : Option (zS) := (zgI u0 0 (some this) 4).bind fun v1 => if v1 = (-1) then ((zpI u0 0 (some this) 4 a1).bind fun u2 => (zpI u2 0 (some this) 5 a2).bind fun u3 => (zpI u3 0 (some this) 6 a3).bind fun u4 => some u4) else ((zgI u0 0 (some this) 5).bind fun v5 => if v5 ≤ a2 then (some u0) else ((zpI u0 0 (some this) 4 a1).bind fun u6 => (zpI u6 0 (some this) 5 a2).bind fun u7 => (zpI u7 0 (some this) 6 a3).bind fun u8 => some u8))
set_option maxHeartbeats 4000000 in
set_option maxRecDepth 100000 in
theorem B_Course_keepCheaper (g : zG) (d : Nat) {u0 : zS} {this : Nat} {a1 : Int32} {a2 : Int32} {a3 : Int32} {o : zS} (h : F_Course_keepCheaper u0 this a1 a2 a3 = some o) : zMt g zy_Course_keepCheaper (d + 1) 0 0 [zr g (some this), .int a1, .int a2, .int a3] u0 none o := by
  refine zMt_of2 (ls := [some (zr g (some this)), some (.int a1), some (.int a2), some (.int a3)]) 0 (by decide +kernel) (by simp [lg_sl, zr_cat, zcI, zcJ]) (by simp [zal, zr_cat, zcI, zcJ, List.replicate]) ?_
  revert h
  show zJ g zy_Course_keepCheaper (d + 1) 0 0 zwV o 0 0 0 [some (zr g (some this)), some (.int a1), some (.int a2), some (.int a3)] [] u0 (F_Course_keepCheaper u0 this a1 a2 a3)
  unfold F_Course_keepCheaper
  refine zj_aload_n d_Course_keepCheaper_0 rfl ?_
  refine zj_getI fl_Course_26 (fun _ _ _ _ => rfl) d_Course_keepCheaper_1 (fun v1 => ?_)
  refine zj_iconst (-1) d_Course_keepCheaper_4 (by decide) ?_
  refine zj_icmp_eq 16 d_Course_keepCheaper_5 rfl (fun _ => ?_) (fun _ => ?_)
  · refine zj_aload_n d_Course_keepCheaper_16 rfl ?_
    refine zj_iload_n d_Course_keepCheaper_17 rfl ?_
    refine zj_putI fl_Course_26 (fun _ _ _ _ => rfl) ⟨rfl, rfl⟩ d_Course_keepCheaper_18 (fun u2 => ?_)
    refine zj_aload_n d_Course_keepCheaper_21 rfl ?_
    refine zj_iload_n d_Course_keepCheaper_22 rfl ?_
    refine zj_putI fl_Course_29 (fun _ _ _ _ => rfl) ⟨rfl, rfl⟩ d_Course_keepCheaper_23 (fun u3 => ?_)
    refine zj_aload_n d_Course_keepCheaper_26 rfl ?_
    refine zj_iload_n d_Course_keepCheaper_27 rfl ?_
    refine zj_putI fl_Course_32 (fun _ _ _ _ => rfl) ⟨rfl, rfl⟩ d_Course_keepCheaper_28 (fun u4 => ?_)
    exact zj_vret rfl rfl rfl rfl d_Course_keepCheaper_31
  refine zj_iload_n d_Course_keepCheaper_8 rfl ?_
  refine zj_aload_n d_Course_keepCheaper_9 rfl ?_
  refine zj_getI fl_Course_29 (fun _ _ _ _ => rfl) d_Course_keepCheaper_10 (fun v5 => ?_)
  refine zj_icmp_ge 31 d_Course_keepCheaper_13 rfl (fun _ => ?_) (fun _ => ?_)
  · exact zj_vret rfl rfl rfl rfl d_Course_keepCheaper_31
  refine zj_aload_n d_Course_keepCheaper_16 rfl ?_
  refine zj_iload_n d_Course_keepCheaper_17 rfl ?_
  refine zj_putI fl_Course_26 (fun _ _ _ _ => rfl) ⟨rfl, rfl⟩ d_Course_keepCheaper_18 (fun u6 => ?_)
  refine zj_aload_n d_Course_keepCheaper_21 rfl ?_
  refine zj_iload_n d_Course_keepCheaper_22 rfl ?_
  refine zj_putI fl_Course_29 (fun _ _ _ _ => rfl) ⟨rfl, rfl⟩ d_Course_keepCheaper_23 (fun u7 => ?_)
  refine zj_aload_n d_Course_keepCheaper_26 rfl ?_
  refine zj_iload_n d_Course_keepCheaper_27 rfl ?_
  refine zj_putI fl_Course_32 (fun _ _ _ _ => rfl) ⟨rfl, rfl⟩ d_Course_keepCheaper_28 (fun u8 => ?_)
  exact zj_vret rfl rfl rfl rfl d_Course_keepCheaper_31
def F_Course_offer (u0 : zS) (this : Nat) (a1 : Int32) (a2 : Int32) (a3 : Int64) : Option (zS) := (zgI u0 0 (some this) 0).bind fun v1 => if 42 ≤ v1 then (some u0) else ((zgR u0 0 (some this) 1).bind fun v2 => (zgI u0 0 (some this) 0).bind fun v3 => (zsI u0 v2 v3 a1).bind fun u4 => (zgR u4 0 (some this) 2).bind fun v5 => (zgI u4 0 (some this) 0).bind fun v6 => (zsI u4 v5 v6 a2).bind fun u7 => (zgR u7 0 (some this) 3).bind fun v8 => (zgI u7 0 (some this) 0).bind fun v9 => (zsJ u7 v8 v9 a3).bind fun u10 => (zgI u10 0 (some this) 0).bind fun v11 => (zpI u10 0 (some this) 0 (v11 + 1)).bind fun u12 => some u12)
set_option maxHeartbeats 4000000 in
set_option maxRecDepth 100000 in
theorem B_Course_offer (g : zG) (d : Nat) {u0 : zS} {this : Nat} {a1 : Int32} {a2 : Int32} {a3 : Int64} {o : zS} (h : F_Course_offer u0 this a1 a2 a3 = some o) : zMt g zy_Course_offer (d + 1) 0 0 [zr g (some this), .int a1, .int a2, .long a3] u0 none o := by
  refine zMt_of2 (ls := [some (zr g (some this)), some (.int a1), some (.int a2), some (.long a3), none]) 0 (by decide +kernel) (by simp [lg_sl, zr_cat, zcI, zcJ]) (by simp [zal, zr_cat, zcI, zcJ, List.replicate]) ?_
  revert h
  show zJ g zy_Course_offer (d + 1) 0 0 zwV o 0 0 0 [some (zr g (some this)), some (.int a1), some (.int a2), some (.long a3), none] [] u0 (F_Course_offer u0 this a1 a2 a3)
  unfold F_Course_offer
  refine zj_aload_n d_Course_offer_0 rfl ?_
  refine zj_getI fl_Course_9 (fun _ _ _ _ => rfl) d_Course_offer_1 (fun v1 => ?_)
  refine zj_bipush 42 d_Course_offer_4 (by decide) ?_
  refine zj_icmp_ge 49 d_Course_offer_6 rfl (fun _ => ?_) (fun _ => ?_)
  · exact zj_vret rfl rfl rfl rfl d_Course_offer_49
  refine zj_aload_n d_Course_offer_9 rfl ?_
  refine zj_getR fl_Course_15 (fun _ _ _ _ => rfl) d_Course_offer_10 (fun v2 => ?_)
  refine zj_aload_n d_Course_offer_13 rfl ?_
  refine zj_getI fl_Course_9 (fun _ _ _ _ => rfl) d_Course_offer_14 (fun v3 => ?_)
  refine zj_iload_n d_Course_offer_17 rfl ?_
  refine zj_iastore d_Course_offer_18 (fun u4 => ?_)
  refine zj_aload_n d_Course_offer_19 rfl ?_
  refine zj_getR fl_Course_19 (fun _ _ _ _ => rfl) d_Course_offer_20 (fun v5 => ?_)
  refine zj_aload_n d_Course_offer_23 rfl ?_
  refine zj_getI fl_Course_9 (fun _ _ _ _ => rfl) d_Course_offer_24 (fun v6 => ?_)
  refine zj_iload_n d_Course_offer_27 rfl ?_
  refine zj_iastore d_Course_offer_28 (fun u7 => ?_)
  refine zj_aload_n d_Course_offer_29 rfl ?_
  refine zj_getR fl_Course_22 (fun _ _ _ _ => rfl) d_Course_offer_30 (fun v8 => ?_)
  refine zj_aload_n d_Course_offer_33 rfl ?_
  refine zj_getI fl_Course_9 (fun _ _ _ _ => rfl) d_Course_offer_34 (fun v9 => ?_)
  refine zj_lload_n d_Course_offer_37 rfl ?_
  refine zj_lastore d_Course_offer_38 (fun u10 => ?_)
  refine zj_aload_n d_Course_offer_39 rfl ?_
  refine zj_dup d_Course_offer_40 (zr_cat _ _) ?_
  refine zj_getI fl_Course_9 (fun _ _ _ _ => rfl) d_Course_offer_41 (fun v11 => ?_)
  refine zj_iconst 1 d_Course_offer_44 (by decide) ?_
  refine zj_iadd d_Course_offer_45 ?_
  refine zj_putI fl_Course_9 (fun _ _ _ _ => rfl) ⟨rfl, rfl⟩ d_Course_offer_46 (fun u12 => ?_)
  exact zj_vret rfl rfl rfl rfl d_Course_offer_49
def F_Cover_init (u0 : zS) (this : Nat) : Option (zS) := (zpI u0 1 (some this) 0 0).bind fun u1 => (znw u1 (.inl (.int, 6))).bind <| zk fun a2 u3 => (zpR u3 1 (some this) 1 (some a2)).bind fun u4 => (znw u4 (.inl (.int, 64))).bind <| zk fun a5 u6 => (zpR u6 1 (some this) 2 (some a5)).bind fun u7 => some u7
set_option maxHeartbeats 4000000 in
set_option maxRecDepth 100000 in
theorem B_Cover_init (g : zG) (d : Nat) {u0 : zS} {this : Nat} {o : zS} (h : F_Cover_init u0 this = some o) : zMt g zy_Cover_init (d + 1) 2 70 [zr g (some this)] u0 none o := by
  refine zMt_of2 (ls := [some (zr g (some this))]) 0 (by decide +kernel) (by simp [lg_sl, zr_cat, zcI, zcJ]) (by simp [zal, zr_cat, zcI, zcJ, List.replicate]) ?_
  revert h
  show zJ g zy_Cover_init (d + 1) 2 70 zwV o 0 0 0 [some (zr g (some this))] [] u0 (F_Cover_init u0 this)
  unfold F_Cover_init
  refine zj_aload_n d_Cover_init_0 rfl ?_
  refine zj_objInit ⟨_, rfl⟩ oi_Cover_3 oi_i oi_c (by omega) (by decide) d_Cover_init_1 ?_
  refine zj_aload_n d_Cover_init_4 rfl ?_
  refine zj_iconst 0 d_Cover_init_5 (by decide) ?_
  refine zj_putI fl_Cover_9 (fun _ _ _ _ => rfl) ⟨rfl, rfl⟩ d_Cover_init_6 (fun u1 => ?_)
  refine zj_aload_n d_Cover_init_9 rfl ?_
  refine zj_bipush 6 d_Cover_init_10 (by decide) ?_
  refine zj_newa (N := 6) 0 rfl rfl (by simp) ac_I (by decide) (by decide) (by decide) (by decide) d_Cover_init_12 (fun a2 u3 => ?_)
  refine zj_putFR fl_Cover_15 ⟨rfl, rfl⟩ (fun _ _ _ _ => rfl) (znfA _) d_Cover_init_14 (fun u4 => ?_)
  refine zj_aload_n d_Cover_init_17 rfl ?_
  refine zj_bipush 64 d_Cover_init_18 (by decide) ?_
  refine zj_newa (N := 64) 0 rfl rfl (by simp) ac_I (by decide) (by decide) (by decide) (by decide) d_Cover_init_20 (fun a5 u6 => ?_)
  refine zj_putFR fl_Cover_19 ⟨rfl, rfl⟩ (fun _ _ _ _ => rfl) (znfA _) d_Cover_init_22 (fun u7 => ?_)
  exact zj_vret rfl rfl rfl rfl d_Cover_init_25
def F_Cover_helpedBy (u0 : zS) (this : Nat) (a1 : Int32) (a2 : Int32) : Option (Int64) := zfix2 (fun (r1 : Int64 → Int32 → Option (Int64)) (x2 : Int64) (x3 : Int32) => if 64 ≤ x3 then (some x2) else (if ((x3 >>> (a2 &&& 31)) &&& 1) = 1 then ((zgR u0 1 (some this) 2).bind fun v4 => (zaI u0 .int v4 x3).bind fun v5 => if ((v5 >>> (a1 &&& 31)) &&& 1) = 0 then (zlet ((x2 ||| ((1 : Int64) <<< ((x3 : Int32).toInt64 &&& 63))) : Int64) fun x6 => r1 x6 (x3 + 1)) else (r1 x2 (x3 + 1))) else (r1 x2 (x3 + 1)))) zFU 0 1
set_option maxHeartbeats 4000000 in
set_option maxRecDepth 100000 in
theorem B_Cover_helpedBy (g : zG) (d : Nat) {u0 : zS} {this : Nat} {a1 : Int32} {a2 : Int32} {o : Int64} (h : F_Cover_helpedBy u0 this a1 a2 = some o) : zMt g zy_Cover_helpedBy (d + 1) 0 0 [zr g (some this), .int a1, .int a2] u0 (some (.long o)) u0 := by
  refine zMt_of2 (ls := [some (zr g (some this)), some (.int a1), some (.int a2), none, none, none]) 3 (by decide +kernel) (by simp [lg_sl, zr_cat, zcI, zcJ]) (by simp [zal, zr_cat, zcI, zcJ, List.replicate]) ?_
  revert h
  show zJ g zy_Cover_helpedBy (d + 1) 0 0 (zwJp u0) o 0 0 0 [some (zr g (some this)), some (.int a1), some (.int a2), none, none, none] [] u0 (F_Cover_helpedBy u0 this a1 a2)
  unfold F_Cover_helpedBy
  refine zj_lconst 0 d_Cover_helpedBy_0 (by decide) ?_
  refine zj_lstore_n [some (zr g (some this)), some (.int a1), some (.int a2), some (.long 0), none, none] d_Cover_helpedBy_1 (by decide) rfl rfl ?_
  refine zj_iconst 1 d_Cover_helpedBy_2 (by decide) ?_
  refine zj_istore [some (zr g (some this)), some (.int a1), some (.int a2), some (.long 0), none, some (.int 1)] d_Cover_helpedBy_3 (by decide) rfl rfl ?_
  refine zj_fix2 (fun x2 x3 => [some (zr g (some this)), some (.int a1), some (.int a2), some (.long x2), none, some (.int x3)]) (fun x2 x3 => u0) (fun r1 hr1 x2 x3 => ?_) 0 1
  refine zj_iload d_Cover_helpedBy_5 rfl ?_
  refine zj_bipush 64 d_Cover_helpedBy_7 (by decide) ?_
  refine zj_icmp_ge 49 d_Cover_helpedBy_9 rfl (fun _ => ?_) (fun _ => ?_)
  · refine zj_lload_n d_Cover_helpedBy_49 rfl ?_
    exact zj_lret rfl rfl rfl rfl d_Cover_helpedBy_50
  refine zj_iload d_Cover_helpedBy_12 rfl ?_
  refine zj_iload_n d_Cover_helpedBy_14 rfl ?_
  refine zj_ishr d_Cover_helpedBy_15 ?_
  refine zj_iconst 1 d_Cover_helpedBy_16 (by decide) ?_
  refine zj_iand d_Cover_helpedBy_17 ?_
  refine zj_iconst 1 d_Cover_helpedBy_18 (by decide) ?_
  refine zj_icmp_ne 43 d_Cover_helpedBy_19 rfl (fun _ => ?_) (fun _ => ?_)
  · refine zj_iinc (v := (x3 + 1)) [some (zr g (some this)), some (.int a1), some (.int a2), some (.long x2), none, some (.int (x3 + 1))] d_Cover_helpedBy_43 rfl rfl (by decide) rfl rfl ?_
    refine zj_goto 5 d_Cover_helpedBy_46 rfl ?_
    exact hr1 x2 (x3 + 1)
  refine zj_aload_n d_Cover_helpedBy_22 rfl ?_
  refine zj_getR fl_Cover_19 (fun _ _ _ _ => rfl) d_Cover_helpedBy_23 (fun v4 => ?_)
  refine zj_iload d_Cover_helpedBy_26 rfl ?_
  refine zj_iaload d_Cover_helpedBy_28 (fun v5 => ?_)
  refine zj_iload_n d_Cover_helpedBy_29 rfl ?_
  refine zj_ishr d_Cover_helpedBy_30 ?_
  refine zj_iconst 1 d_Cover_helpedBy_31 (by decide) ?_
  refine zj_iand d_Cover_helpedBy_32 ?_
  refine zj_if_ne 43 d_Cover_helpedBy_33 rfl (fun _ => ?_) (fun _ => ?_)
  · refine zj_iinc (v := (x3 + 1)) [some (zr g (some this)), some (.int a1), some (.int a2), some (.long x2), none, some (.int (x3 + 1))] d_Cover_helpedBy_43 rfl rfl (by decide) rfl rfl ?_
    refine zj_goto 5 d_Cover_helpedBy_46 rfl ?_
    exact hr1 x2 (x3 + 1)
  refine zj_lload_n d_Cover_helpedBy_36 rfl ?_
  refine zj_lconst 1 d_Cover_helpedBy_37 (by decide) ?_
  refine zj_iload d_Cover_helpedBy_38 rfl ?_
  refine zj_lshl d_Cover_helpedBy_40 ?_
  refine zj_lor d_Cover_helpedBy_41 ?_
  refine zj_letJ (fun x6 => ?_)
  refine zj_lstore_n [some (zr g (some this)), some (.int a1), some (.int a2), some (.long x6), none, some (.int x3)] d_Cover_helpedBy_42 (by decide) rfl rfl ?_
  refine zj_iinc (v := (x3 + 1)) [some (zr g (some this)), some (.int a1), some (.int a2), some (.long x6), none, some (.int (x3 + 1))] d_Cover_helpedBy_43 rfl rfl (by decide) rfl rfl ?_
  refine zj_goto 5 d_Cover_helpedBy_46 rfl ?_
  exact hr1 x6 (x3 + 1)
def F_Cover_spread (u0 : zS) (this : Nat) : Option (zS) := zfix2 (fun (r1 : zS → Int32 → Option (zS)) (u2 : zS) (x3 : Int32) => if 6 ≤ x3 then (some u2) else (zlet (((1 : Int32) <<< (x3 &&& 31)) : Int32) fun x4 => zfix2 (fun (r5 : zS → Int32 → Option (zS)) (u6 : zS) (x7 : Int32) => if x4 ≤ x7 then (r1 u6 (x3 + 1)) else ((zgR u6 1 (some this) 2).bind fun v8 => (zgR u6 1 (some this) 2).bind fun v9 => (zaI u6 .int v9 x7).bind fun v10 => (zgR u6 1 (some this) 1).bind fun v11 => (zaI u6 .int v11 x3).bind fun v12 => (zsI u6 v8 (x4 + x7) (v10 ||| v12)).bind fun u13 => r5 u13 (x7 + 1))) zFU u2 0)) zFU u0 0
set_option maxHeartbeats 4000000 in
set_option maxRecDepth 100000 in
theorem B_Cover_spread (g : zG) (d : Nat) {u0 : zS} {this : Nat} {o : zS} (h : F_Cover_spread u0 this = some o) : zMt g zy_Cover_spread (d + 1) 0 0 [zr g (some this)] u0 none o := by
  refine zMt_of2 (ls := [some (zr g (some this)), none, none, none]) 3 (by decide +kernel) (by simp [lg_sl, zr_cat, zcI, zcJ]) (by simp [zal, zr_cat, zcI, zcJ, List.replicate]) ?_
  revert h
  show zJ g zy_Cover_spread (d + 1) 0 0 zwV o 0 0 0 [some (zr g (some this)), none, none, none] [] u0 (F_Cover_spread u0 this)
  unfold F_Cover_spread
  refine zj_iconst 0 d_Cover_spread_0 (by decide) ?_
  refine zj_istore_n [some (zr g (some this)), some (.int 0), none, none] d_Cover_spread_1 (by decide) rfl rfl ?_
  refine zj_fix2 (fun u2 x3 => [some (zr g (some this)), some (.int x3), none, none]) (fun u2 x3 => u2) (fun r1 hr1 u2 x3 => ?_) u0 0
  refine zj_iload_n d_Cover_spread_2 rfl ?_
  refine zj_bipush 6 d_Cover_spread_3 (by decide) ?_
  refine zj_icmp_ge 52 d_Cover_spread_5 rfl (fun _ => ?_) (fun _ => ?_)
  · exact zj_vret rfl rfl rfl rfl d_Cover_spread_52
  refine zj_iconst 1 d_Cover_spread_8 (by decide) ?_
  refine zj_iload_n d_Cover_spread_9 rfl ?_
  refine zj_ishl d_Cover_spread_10 ?_
  refine zj_letI (fun x4 => ?_)
  refine zj_istore_n [some (zr g (some this)), some (.int x3), some (.int x4), none] d_Cover_spread_11 (by decide) rfl rfl ?_
  refine zj_iconst 0 d_Cover_spread_12 (by decide) ?_
  refine zj_istore_n [some (zr g (some this)), some (.int x3), some (.int x4), some (.int 0)] d_Cover_spread_13 (by decide) rfl rfl ?_
  refine zj_fix2 (fun u6 x7 => [some (zr g (some this)), some (.int x3), some (.int x4), some (.int x7)]) (fun u6 x7 => u6) (fun r5 hr5 u6 x7 => ?_) u2 0
  refine zj_iload_n d_Cover_spread_14 rfl ?_
  refine zj_iload_n d_Cover_spread_15 rfl ?_
  refine zj_icmp_ge 46 d_Cover_spread_16 rfl (fun _ => ?_) (fun _ => ?_)
  · refine zj_iinc (v := (x3 + 1)) [some (zr g (some this)), some (.int (x3 + 1)), some (.int x4), some (.int x7)] d_Cover_spread_46 rfl rfl (by decide) rfl rfl ?_
    refine zj_goto 2 d_Cover_spread_49 rfl ?_
    refine zj_cut [some (zr g (some this)), some (.int (x3 + 1)), none, none] ⟨rfl, ⟨rfl, trivial⟩⟩ ?_
    exact hr1 u6 (x3 + 1)
  refine zj_aload_n d_Cover_spread_19 rfl ?_
  refine zj_getR fl_Cover_19 (fun _ _ _ _ => rfl) d_Cover_spread_20 (fun v8 => ?_)
  refine zj_iload_n d_Cover_spread_23 rfl ?_
  refine zj_iload_n d_Cover_spread_24 rfl ?_
  refine zj_iadd d_Cover_spread_25 ?_
  refine zj_aload_n d_Cover_spread_26 rfl ?_
  refine zj_getR fl_Cover_19 (fun _ _ _ _ => rfl) d_Cover_spread_27 (fun v9 => ?_)
  refine zj_iload_n d_Cover_spread_30 rfl ?_
  refine zj_iaload d_Cover_spread_31 (fun v10 => ?_)
  refine zj_aload_n d_Cover_spread_32 rfl ?_
  refine zj_getR fl_Cover_15 (fun _ _ _ _ => rfl) d_Cover_spread_33 (fun v11 => ?_)
  refine zj_iload_n d_Cover_spread_36 rfl ?_
  refine zj_iaload d_Cover_spread_37 (fun v12 => ?_)
  refine zj_ior d_Cover_spread_38 ?_
  refine zj_iastore d_Cover_spread_39 (fun u13 => ?_)
  refine zj_iinc (v := (x7 + 1)) [some (zr g (some this)), some (.int x3), some (.int x4), some (.int (x7 + 1))] d_Cover_spread_40 rfl rfl (by decide) rfl rfl ?_
  refine zj_goto 14 d_Cover_spread_43 rfl ?_
  exact hr5 u13 (x7 + 1)
def F_Office_init (u0 : zS) (this : Nat) : Option (zS) := (zpI u0 2 (some this) 0 0).bind fun u1 => (zpI u1 2 (some this) 1 0).bind fun u2 => (znw u2 (.inl (.int, 6))).bind <| zk fun a3 u4 => (zpR u4 2 (some this) 2 (some a3)).bind fun u5 => (zpI u5 2 (some this) 3 0).bind fun u6 => some u6
set_option maxHeartbeats 4000000 in
set_option maxRecDepth 100000 in
theorem B_Office_init (g : zG) (d : Nat) {u0 : zS} {this : Nat} {o : zS} (h : F_Office_init u0 this = some o) : zMt g zy_Office_init (d + 1) 1 6 [zr g (some this)] u0 none o := by
  refine zMt_of2 (ls := [some (zr g (some this))]) 0 (by decide +kernel) (by simp [lg_sl, zr_cat, zcI, zcJ]) (by simp [zal, zr_cat, zcI, zcJ, List.replicate]) ?_
  revert h
  show zJ g zy_Office_init (d + 1) 1 6 zwV o 0 0 0 [some (zr g (some this))] [] u0 (F_Office_init u0 this)
  unfold F_Office_init
  refine zj_aload_n d_Office_init_0 rfl ?_
  refine zj_objInit ⟨_, rfl⟩ oi_Office_3 oi_i oi_c (by omega) (by decide) d_Office_init_1 ?_
  refine zj_aload_n d_Office_init_4 rfl ?_
  refine zj_iconst 0 d_Office_init_5 (by decide) ?_
  refine zj_putI fl_Office_9 (fun _ _ _ _ => rfl) ⟨rfl, rfl⟩ d_Office_init_6 (fun u1 => ?_)
  refine zj_aload_n d_Office_init_9 rfl ?_
  refine zj_iconst 0 d_Office_init_10 (by decide) ?_
  refine zj_putI fl_Office_15 (fun _ _ _ _ => rfl) ⟨rfl, rfl⟩ d_Office_init_11 (fun u2 => ?_)
  refine zj_aload_n d_Office_init_14 rfl ?_
  refine zj_bipush 6 d_Office_init_15 (by decide) ?_
  refine zj_newa (N := 6) 0 rfl rfl (by simp) ac_I (by decide) (by decide) (by decide) (by decide) d_Office_init_17 (fun a3 u4 => ?_)
  refine zj_putFR fl_Office_18 ⟨rfl, rfl⟩ (fun _ _ _ _ => rfl) (znfA _) d_Office_init_19 (fun u5 => ?_)
  refine zj_aload_n d_Office_init_22 rfl ?_
  refine zj_iconst 0 d_Office_init_23 (by decide) ?_
  refine zj_putI fl_Office_22 (fun _ _ _ _ => rfl) ⟨rfl, rfl⟩ d_Office_init_24 (fun u6 => ?_)
  exact zj_vret rfl rfl rfl rfl d_Office_init_27
def F_Office_has (u0 : zS) (this : Nat) (a1 : Int32) : Option (Int32) := if a1 < 0 then (some 0) else ((zgI u0 2 (some this) 0).bind fun v1 => if v1 ≤ a1 then (some 0) else (some 1))
set_option maxHeartbeats 4000000 in
set_option maxRecDepth 100000 in
theorem B_Office_has (g : zG) (d : Nat) {u0 : zS} {this : Nat} {a1 : Int32} {o : Int32} (h : F_Office_has u0 this a1 = some o) : zMt g zy_Office_has (d + 1) 0 0 [zr g (some this), .int a1] u0 (some (.int o)) u0 := by
  refine zMt_of2 (ls := [some (zr g (some this)), some (.int a1)]) 0 (by decide +kernel) (by simp [lg_sl, zr_cat, zcI, zcJ]) (by simp [zal, zr_cat, zcI, zcJ, List.replicate]) ?_
  revert h
  show zJ g zy_Office_has (d + 1) 0 0 (zwIp u0) o 0 0 0 [some (zr g (some this)), some (.int a1)] [] u0 (F_Office_has u0 this a1)
  unfold F_Office_has
  refine zj_iload_n d_Office_has_0 rfl ?_
  refine zj_if_lt 16 d_Office_has_1 rfl (fun _ => ?_) (fun _ => ?_)
  · refine zj_iconst 0 d_Office_has_16 (by decide) ?_
    exact zj_zretL (by decide) rfl rfl rfl rfl d_Office_has_17
  refine zj_iload_n d_Office_has_4 rfl ?_
  refine zj_aload_n d_Office_has_5 rfl ?_
  refine zj_getI fl_Office_9 (fun _ _ _ _ => rfl) d_Office_has_6 (fun v1 => ?_)
  refine zj_icmp_ge 16 d_Office_has_9 rfl (fun _ => ?_) (fun _ => ?_)
  · refine zj_iconst 0 d_Office_has_16 (by decide) ?_
    exact zj_zretL (by decide) rfl rfl rfl rfl d_Office_has_17
  refine zj_iconst 1 d_Office_has_12 (by decide) ?_
  refine zj_goto 17 d_Office_has_13 rfl ?_
  exact zj_zretL (by decide) rfl rfl rfl rfl d_Office_has_17
def F_Office_needs (u0 : zS) (this : Nat) (a1 : Int32) : Option (Int32) := (zgI u0 2 (some this) 1).bind fun v1 => if ((v1 >>> (a1 &&& 31)) &&& 1) = 1 then (some 1) else (some 0)
set_option maxHeartbeats 4000000 in
set_option maxRecDepth 100000 in
theorem B_Office_needs (g : zG) (d : Nat) {u0 : zS} {this : Nat} {a1 : Int32} {o : Int32} (h : F_Office_needs u0 this a1 = some o) : zMt g zy_Office_needs (d + 1) 0 0 [zr g (some this), .int a1] u0 (some (.int o)) u0 := by
  refine zMt_of2 (ls := [some (zr g (some this)), some (.int a1)]) 0 (by decide +kernel) (by simp [lg_sl, zr_cat, zcI, zcJ]) (by simp [zal, zr_cat, zcI, zcJ, List.replicate]) ?_
  revert h
  show zJ g zy_Office_needs (d + 1) 0 0 (zwIp u0) o 0 0 0 [some (zr g (some this)), some (.int a1)] [] u0 (F_Office_needs u0 this a1)
  unfold F_Office_needs
  refine zj_aload_n d_Office_needs_0 rfl ?_
  refine zj_getI fl_Office_15 (fun _ _ _ _ => rfl) d_Office_needs_1 (fun v1 => ?_)
  refine zj_iload_n d_Office_needs_4 rfl ?_
  refine zj_ishr d_Office_needs_5 ?_
  refine zj_iconst 1 d_Office_needs_6 (by decide) ?_
  refine zj_iand d_Office_needs_7 ?_
  refine zj_iconst 1 d_Office_needs_8 (by decide) ?_
  refine zj_icmp_ne 16 d_Office_needs_9 rfl (fun _ => ?_) (fun _ => ?_)
  · refine zj_iconst 0 d_Office_needs_16 (by decide) ?_
    exact zj_zretL (by decide) rfl rfl rfl rfl d_Office_needs_17
  refine zj_iconst 1 d_Office_needs_12 (by decide) ?_
  refine zj_goto 17 d_Office_needs_13 rfl ?_
  exact zj_zretL (by decide) rfl rfl rfl rfl d_Office_needs_17
def F_Office_open (u0 : zS) (this : Nat) (a1 : Int32) (a2 : Int32) : Option (Int32 × zS) := (zgI u0 2 (some this) 0).bind fun v1 => if v1 < 6 then (zjn1 (fun (j3 : zS → Option (Int32 × zS)) => if a1 = 0 then (j3 u0) else ((zgI u0 2 (some this) 1).bind fun v10 => (zgI u0 2 (some this) 0).bind fun v11 => (zpI u0 2 (some this) 1 (v10 ||| ((1 : Int32) <<< (v11 &&& 31)))).bind fun u12 => j3 u12)) (fun (u2 : zS) => (zgR u2 2 (some this) 2).bind fun v4 => (zgI u2 2 (some this) 0).bind fun v5 => (zsI u2 v4 v5 a2).bind fun u6 => (zgI u6 2 (some this) 0).bind fun v7 => (zpI u6 2 (some this) 0 (v7 + 1)).bind fun u8 => (zgI u8 2 (some this) 0).bind fun v9 => some ((v9 - 1), u8))) else (some ((-4), u0))
set_option maxHeartbeats 4000000 in
set_option maxRecDepth 100000 in
theorem B_Office_open (g : zG) (d : Nat) {u0 : zS} {this : Nat} {a1 : Int32} {a2 : Int32} {o : Int32 × zS} (h : F_Office_open u0 this a1 a2 = some o) : zMt g zy_Office_open (d + 1) 0 0 [zr g (some this), .int a1, .int a2] u0 (some (.int o.1)) o.2 := by
  refine zMt_of2 (ls := [some (zr g (some this)), some (.int a1), some (.int a2)]) 0 (by decide +kernel) (by simp [lg_sl, zr_cat, zcI, zcJ]) (by simp [zal, zr_cat, zcI, zcJ, List.replicate]) ?_
  revert h
  show zJ g zy_Office_open (d + 1) 0 0 zwI o 0 0 0 [some (zr g (some this)), some (.int a1), some (.int a2)] [] u0 (F_Office_open u0 this a1 a2)
  unfold F_Office_open
  refine zj_aload_n d_Office_open_0 rfl ?_
  refine zj_getI fl_Office_9 (fun _ _ _ _ => rfl) d_Office_open_1 (fun v1 => ?_)
  refine zj_bipush 6 d_Office_open_4 (by decide) ?_
  refine zj_icmp_lt 12 d_Office_open_6 rfl (fun _ => ?_) (fun _ => ?_)
  · refine zj_iload_n d_Office_open_12 rfl ?_
    refine zj_jn1 (pcj := 31) (fun u2 => [some (zr g (some this)), none, some (.int a2)]) (fun u2 => []) (fun u2 => u2) (fun u2 => ?_) (fun j3 hj3 => ?_)
    · refine zj_aload_n d_Office_open_31 rfl ?_
      refine zj_getR fl_Office_18 (fun _ _ _ _ => rfl) d_Office_open_32 (fun v4 => ?_)
      refine zj_aload_n d_Office_open_35 rfl ?_
      refine zj_getI fl_Office_9 (fun _ _ _ _ => rfl) d_Office_open_36 (fun v5 => ?_)
      refine zj_iload_n d_Office_open_39 rfl ?_
      refine zj_iastore d_Office_open_40 (fun u6 => ?_)
      refine zj_aload_n d_Office_open_41 rfl ?_
      refine zj_dup d_Office_open_42 (zr_cat _ _) ?_
      refine zj_getI fl_Office_9 (fun _ _ _ _ => rfl) d_Office_open_43 (fun v7 => ?_)
      refine zj_iconst 1 d_Office_open_46 (by decide) ?_
      refine zj_iadd d_Office_open_47 ?_
      refine zj_putI fl_Office_9 (fun _ _ _ _ => rfl) ⟨rfl, rfl⟩ d_Office_open_48 (fun u8 => ?_)
      refine zj_aload_n d_Office_open_51 rfl ?_
      refine zj_getI fl_Office_9 (fun _ _ _ _ => rfl) d_Office_open_52 (fun v9 => ?_)
      refine zj_iconst 1 d_Office_open_55 (by decide) ?_
      refine zj_isub d_Office_open_56 ?_
      exact zj_iret rfl rfl rfl rfl d_Office_open_57
    refine zj_if_eq 31 d_Office_open_13 rfl (fun _ => ?_) (fun _ => ?_)
    · refine zj_cut [some (zr g (some this)), none, some (.int a2)] ⟨rfl, ⟨rfl, trivial⟩⟩ ?_
      exact hj3 u0
    refine zj_aload_n d_Office_open_16 rfl ?_
    refine zj_dup d_Office_open_17 (zr_cat _ _) ?_
    refine zj_getI fl_Office_15 (fun _ _ _ _ => rfl) d_Office_open_18 (fun v10 => ?_)
    refine zj_iconst 1 d_Office_open_21 (by decide) ?_
    refine zj_aload_n d_Office_open_22 rfl ?_
    refine zj_getI fl_Office_9 (fun _ _ _ _ => rfl) d_Office_open_23 (fun v11 => ?_)
    refine zj_ishl d_Office_open_26 ?_
    refine zj_ior d_Office_open_27 ?_
    refine zj_putI fl_Office_15 (fun _ _ _ _ => rfl) ⟨rfl, rfl⟩ d_Office_open_28 (fun u12 => ?_)
    refine zj_cut [some (zr g (some this)), none, some (.int a2)] ⟨rfl, ⟨rfl, trivial⟩⟩ ?_
    exact hj3 u12
  refine zj_bipush (-4) d_Office_open_9 (by decide) ?_
  exact zj_iret rfl rfl rfl rfl d_Office_open_11
def F_Person_become (u0 : zS) (this : Nat) (a1 : Int32) (a2 : Int32) (a3 : Int32) (a4 : Int32) : Option (zS) := (zpI u0 3 (some this) 0 a1).bind fun u1 => (zpI u1 3 (some this) 1 a2).bind fun u2 => (zpI u2 3 (some this) 2 a3).bind fun u3 => (zpI u3 3 (some this) 3 a4).bind fun u4 => some u4
set_option maxHeartbeats 4000000 in
set_option maxRecDepth 100000 in
theorem B_Person_become (g : zG) (d : Nat) {u0 : zS} {this : Nat} {a1 : Int32} {a2 : Int32} {a3 : Int32} {a4 : Int32} {o : zS} (h : F_Person_become u0 this a1 a2 a3 a4 = some o) : zMt g zy_Person_become (d + 1) 0 0 [zr g (some this), .int a1, .int a2, .int a3, .int a4] u0 none o := by
  refine zMt_of2 (ls := [some (zr g (some this)), some (.int a1), some (.int a2), some (.int a3), some (.int a4)]) 0 (by decide +kernel) (by simp [lg_sl, zr_cat, zcI, zcJ]) (by simp [zal, zr_cat, zcI, zcJ, List.replicate]) ?_
  revert h
  show zJ g zy_Person_become (d + 1) 0 0 zwV o 0 0 0 [some (zr g (some this)), some (.int a1), some (.int a2), some (.int a3), some (.int a4)] [] u0 (F_Person_become u0 this a1 a2 a3 a4)
  unfold F_Person_become
  refine zj_aload_n d_Person_become_0 rfl ?_
  refine zj_iload_n d_Person_become_1 rfl ?_
  refine zj_putI fl_Person_9 (fun _ _ _ _ => rfl) ⟨rfl, rfl⟩ d_Person_become_2 (fun u1 => ?_)
  refine zj_aload_n d_Person_become_5 rfl ?_
  refine zj_iload_n d_Person_become_6 rfl ?_
  refine zj_putI fl_Person_15 (fun _ _ _ _ => rfl) ⟨rfl, rfl⟩ d_Person_become_7 (fun u2 => ?_)
  refine zj_aload_n d_Person_become_10 rfl ?_
  refine zj_iload_n d_Person_become_11 rfl ?_
  refine zj_putI fl_Person_18 (fun _ _ _ _ => rfl) ⟨rfl, rfl⟩ d_Person_become_12 (fun u3 => ?_)
  refine zj_aload_n d_Person_become_15 rfl ?_
  refine zj_iload d_Person_become_16 rfl ?_
  refine zj_putI fl_Person_21 (fun _ _ _ _ => rfl) ⟨rfl, rfl⟩ d_Person_become_18 (fun u4 => ?_)
  exact zj_vret rfl rfl rfl rfl d_Person_become_21
def F_Person_isA (u0 : zS) (this : Nat) (a1 : Int32) : Option (Int32) := (zgI u0 3 (some this) 0).bind fun v1 => zfix2 (fun (r2 : Int32 → Int32 → Option (Int32)) (x3 : Int32) (x4 : Int32) => if 6 ≤ x4 then (some 0) else (if x3 < 0 then (some 0) else (if x3 = a1 then (some 1) else ((zun x3).bind fun v5 => r2 v5 (x4 + 1))))) zFU v1 0
set_option maxHeartbeats 4000000 in
set_option maxRecDepth 100000 in
theorem B_Person_isA (g : zG) (d : Nat) {u0 : zS} {this : Nat} {a1 : Int32} {o : Int32} (h : F_Person_isA u0 this a1 = some o) : zMt g zy_Person_isA (d + 1) 0 0 [zr g (some this), .int a1] u0 (some (.int o)) u0 := by
  refine zMt_of2 (ls := [some (zr g (some this)), some (.int a1), none, none]) 2 (by decide +kernel) (by simp [lg_sl, zr_cat, zcI, zcJ]) (by simp [zal, zr_cat, zcI, zcJ, List.replicate]) ?_
  revert h
  show zJ g zy_Person_isA (d + 1) 0 0 (zwIp u0) o 0 0 0 [some (zr g (some this)), some (.int a1), none, none] [] u0 (F_Person_isA u0 this a1)
  unfold F_Person_isA
  refine zj_aload_n d_Person_isA_0 rfl ?_
  refine zj_getI fl_Person_9 (fun _ _ _ _ => rfl) d_Person_isA_1 (fun v1 => ?_)
  refine zj_istore_n [some (zr g (some this)), some (.int a1), some (.int v1), none] d_Person_isA_4 (by decide) rfl rfl ?_
  refine zj_iconst 0 d_Person_isA_5 (by decide) ?_
  refine zj_istore_n [some (zr g (some this)), some (.int a1), some (.int v1), some (.int 0)] d_Person_isA_6 (by decide) rfl rfl ?_
  refine zj_cut [none, some (.int a1), some (.int v1), some (.int 0)] ⟨rfl, ⟨rfl, ⟨rfl, trivial⟩⟩⟩ ?_
  refine zj_fix2 (fun x3 x4 => [none, some (.int a1), some (.int x3), some (.int x4)]) (fun x3 x4 => u0) (fun r2 hr2 x3 x4 => ?_) v1 0
  refine zj_iload_n d_Person_isA_7 rfl ?_
  refine zj_bipush 6 d_Person_isA_8 (by decide) ?_
  refine zj_icmp_ge 36 d_Person_isA_10 rfl (fun _ => ?_) (fun _ => ?_)
  · refine zj_iconst 0 d_Person_isA_36 (by decide) ?_
    exact zj_zretL (by decide) rfl rfl rfl rfl d_Person_isA_37
  refine zj_iload_n d_Person_isA_13 rfl ?_
  refine zj_if_lt 36 d_Person_isA_14 rfl (fun _ => ?_) (fun _ => ?_)
  · refine zj_iconst 0 d_Person_isA_36 (by decide) ?_
    exact zj_zretL (by decide) rfl rfl rfl rfl d_Person_isA_37
  refine zj_iload_n d_Person_isA_17 rfl ?_
  refine zj_iload_n d_Person_isA_18 rfl ?_
  refine zj_icmp_ne 24 d_Person_isA_19 rfl (fun _ => ?_) (fun _ => ?_)
  · refine zj_under ⟨rfl, un_Person_49⟩ d_Person_isA_24 ?_
    refine zj_iload_n d_Person_isA_27 rfl ?_
    refine zj_uald d_Person_isA_28 (fun v5 => ?_)
    refine zj_istore_n [none, some (.int a1), some (.int v5), some (.int x4)] d_Person_isA_29 (by decide) rfl rfl ?_
    refine zj_iinc (v := (x4 + 1)) [none, some (.int a1), some (.int v5), some (.int (x4 + 1))] d_Person_isA_30 rfl rfl (by decide) rfl rfl ?_
    refine zj_goto 7 d_Person_isA_33 rfl ?_
    exact hr2 v5 (x4 + 1)
  refine zj_iconst 1 d_Person_isA_22 (by decide) ?_
  exact zj_zretL (by decide) rfl rfl rfl rfl d_Person_isA_23
def F_Person_isBarred (u0 : zS) (this : Nat) (a1 : Int32) : Option (Int32) := (zgI u0 3 (some this) 6).bind fun v1 => if ((v1 >>> (a1 &&& 31)) &&& 1) = 1 then (some 1) else (some 0)
set_option maxHeartbeats 4000000 in
set_option maxRecDepth 100000 in
theorem B_Person_isBarred (g : zG) (d : Nat) {u0 : zS} {this : Nat} {a1 : Int32} {o : Int32} (h : F_Person_isBarred u0 this a1 = some o) : zMt g zy_Person_isBarred (d + 1) 0 0 [zr g (some this), .int a1] u0 (some (.int o)) u0 := by
  refine zMt_of2 (ls := [some (zr g (some this)), some (.int a1)]) 0 (by decide +kernel) (by simp [lg_sl, zr_cat, zcI, zcJ]) (by simp [zal, zr_cat, zcI, zcJ, List.replicate]) ?_
  revert h
  show zJ g zy_Person_isBarred (d + 1) 0 0 (zwIp u0) o 0 0 0 [some (zr g (some this)), some (.int a1)] [] u0 (F_Person_isBarred u0 this a1)
  unfold F_Person_isBarred
  refine zj_aload_n d_Person_isBarred_0 rfl ?_
  refine zj_getI fl_Person_31 (fun _ _ _ _ => rfl) d_Person_isBarred_1 (fun v1 => ?_)
  refine zj_iload_n d_Person_isBarred_4 rfl ?_
  refine zj_ishr d_Person_isBarred_5 ?_
  refine zj_iconst 1 d_Person_isBarred_6 (by decide) ?_
  refine zj_iand d_Person_isBarred_7 ?_
  refine zj_iconst 1 d_Person_isBarred_8 (by decide) ?_
  refine zj_icmp_ne 16 d_Person_isBarred_9 rfl (fun _ => ?_) (fun _ => ?_)
  · refine zj_iconst 0 d_Person_isBarred_16 (by decide) ?_
    exact zj_zretL (by decide) rfl rfl rfl rfl d_Person_isBarred_17
  refine zj_iconst 1 d_Person_isBarred_12 (by decide) ?_
  refine zj_goto 17 d_Person_isBarred_13 rfl ?_
  exact zj_zretL (by decide) rfl rfl rfl rfl d_Person_isBarred_17
def F_Person_lessonsHad (u0 : zS) (this : Nat) : Option (Int32) := zfix2 (fun (r1 : Int32 → Int32 → Option (Int32)) (x2 : Int32) (x3 : Int32) => if 6 ≤ x3 then (some x2) else ((zgR u0 3 (some this) 5).bind fun v4 => (zaI u0 .int v4 x3).bind fun v5 => if v5 = (-1) then (r1 x2 (x3 + 1)) else (r1 (x2 + 1) (x3 + 1)))) zFU 0 0
set_option maxHeartbeats 4000000 in
set_option maxRecDepth 100000 in
theorem B_Person_lessonsHad (g : zG) (d : Nat) {u0 : zS} {this : Nat} {o : Int32} (h : F_Person_lessonsHad u0 this = some o) : zMt g zy_Person_lessonsHad (d + 1) 0 0 [zr g (some this)] u0 (some (.int o)) u0 := by
  refine zMt_of2 (ls := [some (zr g (some this)), none, none]) 2 (by decide +kernel) (by simp [lg_sl, zr_cat, zcI, zcJ]) (by simp [zal, zr_cat, zcI, zcJ, List.replicate]) ?_
  revert h
  show zJ g zy_Person_lessonsHad (d + 1) 0 0 (zwIp u0) o 0 0 0 [some (zr g (some this)), none, none] [] u0 (F_Person_lessonsHad u0 this)
  unfold F_Person_lessonsHad
  refine zj_iconst 0 d_Person_lessonsHad_0 (by decide) ?_
  refine zj_istore_n [some (zr g (some this)), some (.int 0), none] d_Person_lessonsHad_1 (by decide) rfl rfl ?_
  refine zj_iconst 0 d_Person_lessonsHad_2 (by decide) ?_
  refine zj_istore_n [some (zr g (some this)), some (.int 0), some (.int 0)] d_Person_lessonsHad_3 (by decide) rfl rfl ?_
  refine zj_fix2 (fun x2 x3 => [some (zr g (some this)), some (.int x2), some (.int x3)]) (fun x2 x3 => u0) (fun r1 hr1 x2 x3 => ?_) 0 0
  refine zj_iload_n d_Person_lessonsHad_4 rfl ?_
  refine zj_bipush 6 d_Person_lessonsHad_5 (by decide) ?_
  refine zj_icmp_ge 29 d_Person_lessonsHad_7 rfl (fun _ => ?_) (fun _ => ?_)
  · refine zj_iload_n d_Person_lessonsHad_29 rfl ?_
    exact zj_iret rfl rfl rfl rfl d_Person_lessonsHad_30
  refine zj_aload_n d_Person_lessonsHad_10 rfl ?_
  refine zj_getR fl_Person_27 (fun _ _ _ _ => rfl) d_Person_lessonsHad_11 (fun v4 => ?_)
  refine zj_iload_n d_Person_lessonsHad_14 rfl ?_
  refine zj_iaload d_Person_lessonsHad_15 (fun v5 => ?_)
  refine zj_iconst (-1) d_Person_lessonsHad_16 (by decide) ?_
  refine zj_icmp_eq 23 d_Person_lessonsHad_17 rfl (fun _ => ?_) (fun _ => ?_)
  · refine zj_iinc (v := (x3 + 1)) [some (zr g (some this)), some (.int x2), some (.int (x3 + 1))] d_Person_lessonsHad_23 rfl rfl (by decide) rfl rfl ?_
    refine zj_goto 4 d_Person_lessonsHad_26 rfl ?_
    exact hr1 x2 (x3 + 1)
  refine zj_iinc (v := (x2 + 1)) [some (zr g (some this)), some (.int (x2 + 1)), some (.int x3)] d_Person_lessonsHad_20 rfl rfl (by decide) rfl rfl ?_
  refine zj_iinc (v := (x3 + 1)) [some (zr g (some this)), some (.int (x2 + 1)), some (.int (x3 + 1))] d_Person_lessonsHad_23 rfl rfl (by decide) rfl rfl ?_
  refine zj_goto 4 d_Person_lessonsHad_26 rfl ?_
  exact hr1 (x2 + 1) (x3 + 1)
def F_Person_setBar (u0 : zS) (this : Nat) (a1 : Int32) (a2 : Int32) : Option (zS) := if a2 = 0 then ((zgI u0 3 (some this) 6).bind fun v1 => (zpI u0 3 (some this) 6 (v1 &&& (((1 : Int32) <<< (a1 &&& 31)) ^^^ (-1)))).bind fun u2 => some u2) else ((zgI u0 3 (some this) 6).bind fun v3 => (zpI u0 3 (some this) 6 (v3 ||| ((1 : Int32) <<< (a1 &&& 31)))).bind fun u4 => some u4)
set_option maxHeartbeats 4000000 in
set_option maxRecDepth 100000 in
theorem B_Person_setBar (g : zG) (d : Nat) {u0 : zS} {this : Nat} {a1 : Int32} {a2 : Int32} {o : zS} (h : F_Person_setBar u0 this a1 a2 = some o) : zMt g zy_Person_setBar (d + 1) 0 0 [zr g (some this), .int a1, .int a2] u0 none o := by
  refine zMt_of2 (ls := [some (zr g (some this)), some (.int a1), some (.int a2)]) 0 (by decide +kernel) (by simp [lg_sl, zr_cat, zcI, zcJ]) (by simp [zal, zr_cat, zcI, zcJ, List.replicate]) ?_
  revert h
  show zJ g zy_Person_setBar (d + 1) 0 0 zwV o 0 0 0 [some (zr g (some this)), some (.int a1), some (.int a2)] [] u0 (F_Person_setBar u0 this a1 a2)
  unfold F_Person_setBar
  refine zj_aload_n d_Person_setBar_0 rfl ?_
  refine zj_iload_n d_Person_setBar_1 rfl ?_
  refine zj_if_eq 16 d_Person_setBar_2 rfl (fun _ => ?_) (fun _ => ?_)
  · refine zj_aload_n d_Person_setBar_16 rfl ?_
    refine zj_getI fl_Person_31 (fun _ _ _ _ => rfl) d_Person_setBar_17 (fun v1 => ?_)
    refine zj_iconst 1 d_Person_setBar_20 (by decide) ?_
    refine zj_iload_n d_Person_setBar_21 rfl ?_
    refine zj_ishl d_Person_setBar_22 ?_
    refine zj_iconst (-1) d_Person_setBar_23 (by decide) ?_
    refine zj_ixor d_Person_setBar_24 ?_
    refine zj_iand d_Person_setBar_25 ?_
    refine zj_putI fl_Person_31 (fun _ _ _ _ => rfl) ⟨rfl, rfl⟩ d_Person_setBar_26 (fun u2 => ?_)
    exact zj_vret rfl rfl rfl rfl d_Person_setBar_29
  refine zj_aload_n d_Person_setBar_5 rfl ?_
  refine zj_getI fl_Person_31 (fun _ _ _ _ => rfl) d_Person_setBar_6 (fun v3 => ?_)
  refine zj_iconst 1 d_Person_setBar_9 (by decide) ?_
  refine zj_iload_n d_Person_setBar_10 rfl ?_
  refine zj_ishl d_Person_setBar_11 ?_
  refine zj_ior d_Person_setBar_12 ?_
  refine zj_goto 26 d_Person_setBar_13 rfl ?_
  refine zj_putI fl_Person_31 (fun _ _ _ _ => rfl) ⟨rfl, rfl⟩ d_Person_setBar_26 (fun u4 => ?_)
  exact zj_vret rfl rfl rfl rfl d_Person_setBar_29
def F_Person_since (u0 : zS) (this : Nat) (a1 : Int32) (a2 : Int32) : Option (Int32) := (zgR u0 3 (some this) 5).bind fun v1 => (zaI u0 .int v1 a1).bind fun v2 => if v2 = (-1) then (some 99) else ((zgR u0 3 (some this) 5).bind fun v3 => (zaI u0 .int v3 a1).bind fun v4 => some (a2 - v4))
set_option maxHeartbeats 4000000 in
set_option maxRecDepth 100000 in
theorem B_Person_since (g : zG) (d : Nat) {u0 : zS} {this : Nat} {a1 : Int32} {a2 : Int32} {o : Int32} (h : F_Person_since u0 this a1 a2 = some o) : zMt g zy_Person_since (d + 1) 0 0 [zr g (some this), .int a1, .int a2] u0 (some (.int o)) u0 := by
  refine zMt_of2 (ls := [some (zr g (some this)), some (.int a1), some (.int a2)]) 0 (by decide +kernel) (by simp [lg_sl, zr_cat, zcI, zcJ]) (by simp [zal, zr_cat, zcI, zcJ, List.replicate]) ?_
  revert h
  show zJ g zy_Person_since (d + 1) 0 0 (zwIp u0) o 0 0 0 [some (zr g (some this)), some (.int a1), some (.int a2)] [] u0 (F_Person_since u0 this a1 a2)
  unfold F_Person_since
  refine zj_aload_n d_Person_since_0 rfl ?_
  refine zj_getR fl_Person_27 (fun _ _ _ _ => rfl) d_Person_since_1 (fun v1 => ?_)
  refine zj_iload_n d_Person_since_4 rfl ?_
  refine zj_iaload d_Person_since_5 (fun v2 => ?_)
  refine zj_iconst (-1) d_Person_since_6 (by decide) ?_
  refine zj_icmp_ne 15 d_Person_since_7 rfl (fun _ => ?_) (fun _ => ?_)
  · refine zj_iload_n d_Person_since_15 rfl ?_
    refine zj_aload_n d_Person_since_16 rfl ?_
    refine zj_getR fl_Person_27 (fun _ _ _ _ => rfl) d_Person_since_17 (fun v3 => ?_)
    refine zj_iload_n d_Person_since_20 rfl ?_
    refine zj_iaload d_Person_since_21 (fun v4 => ?_)
    refine zj_isub d_Person_since_22 ?_
    exact zj_iret rfl rfl rfl rfl d_Person_since_23
  refine zj_bipush 99 d_Person_since_10 (by decide) ?_
  refine zj_goto 23 d_Person_since_12 rfl ?_
  exact zj_iret rfl rfl rfl rfl d_Person_since_23
def F_Person_work (u0 : zS) (this : Nat) (a1 : Int32) (a2 : Int32) : Option (zS) := (zgR u0 3 (some this) 5).bind fun v1 => (zaI u0 .int v1 a1).bind fun v2 => zjn1 (fun (j4 : zS → Option (zS)) => if v2 = (-1) then (j4 u0) else ((zgR u0 3 (some this) 5).bind fun v8 => (zsI u0 v8 a1 a2).bind fun u9 => j4 u9)) (fun (u3 : zS) => (zgI u3 3 (some this) 1).bind fun v5 => if a1 = v5 then (some u3) else ((zgI u3 3 (some this) 4).bind fun v6 => (zpI u3 3 (some this) 4 (v6 + 1)).bind fun u7 => some u7))
set_option maxHeartbeats 4000000 in
set_option maxRecDepth 100000 in
theorem B_Person_work (g : zG) (d : Nat) {u0 : zS} {this : Nat} {a1 : Int32} {a2 : Int32} {o : zS} (h : F_Person_work u0 this a1 a2 = some o) : zMt g zy_Person_work (d + 1) 0 0 [zr g (some this), .int a1, .int a2] u0 none o := by
  refine zMt_of2 (ls := [some (zr g (some this)), some (.int a1), some (.int a2)]) 0 (by decide +kernel) (by simp [lg_sl, zr_cat, zcI, zcJ]) (by simp [zal, zr_cat, zcI, zcJ, List.replicate]) ?_
  revert h
  show zJ g zy_Person_work (d + 1) 0 0 zwV o 0 0 0 [some (zr g (some this)), some (.int a1), some (.int a2)] [] u0 (F_Person_work u0 this a1 a2)
  unfold F_Person_work
  refine zj_aload_n d_Person_work_0 rfl ?_
  refine zj_getR fl_Person_27 (fun _ _ _ _ => rfl) d_Person_work_1 (fun v1 => ?_)
  refine zj_iload_n d_Person_work_4 rfl ?_
  refine zj_iaload d_Person_work_5 (fun v2 => ?_)
  refine zj_iconst (-1) d_Person_work_6 (by decide) ?_
  refine zj_jn1 (pcj := 17) (fun u3 => [some (zr g (some this)), some (.int a1), none]) (fun u3 => []) (fun u3 => u3) (fun u3 => ?_) (fun j4 hj4 => ?_)
  · refine zj_iload_n d_Person_work_17 rfl ?_
    refine zj_aload_n d_Person_work_18 rfl ?_
    refine zj_getI fl_Person_15 (fun _ _ _ _ => rfl) d_Person_work_19 (fun v5 => ?_)
    refine zj_icmp_eq 35 d_Person_work_22 rfl (fun _ => ?_) (fun _ => ?_)
    · exact zj_vret rfl rfl rfl rfl d_Person_work_35
    refine zj_aload_n d_Person_work_25 rfl ?_
    refine zj_dup d_Person_work_26 (zr_cat _ _) ?_
    refine zj_getI fl_Person_24 (fun _ _ _ _ => rfl) d_Person_work_27 (fun v6 => ?_)
    refine zj_iconst 1 d_Person_work_30 (by decide) ?_
    refine zj_iadd d_Person_work_31 ?_
    refine zj_putI fl_Person_24 (fun _ _ _ _ => rfl) ⟨rfl, rfl⟩ d_Person_work_32 (fun u7 => ?_)
    exact zj_vret rfl rfl rfl rfl d_Person_work_35
  refine zj_icmp_eq 17 d_Person_work_7 rfl (fun _ => ?_) (fun _ => ?_)
  · refine zj_cut [some (zr g (some this)), some (.int a1), none] ⟨rfl, ⟨rfl, trivial⟩⟩ ?_
    exact hj4 u0
  refine zj_aload_n d_Person_work_10 rfl ?_
  refine zj_getR fl_Person_27 (fun _ _ _ _ => rfl) d_Person_work_11 (fun v8 => ?_)
  refine zj_iload_n d_Person_work_14 rfl ?_
  refine zj_iload_n d_Person_work_15 rfl ?_
  refine zj_iastore d_Person_work_16 (fun u9 => ?_)
  refine zj_cut [some (zr g (some this)), some (.int a1), none] ⟨rfl, ⟨rfl, trivial⟩⟩ ?_
  exact hj4 u9
def F_Plan_init (u0 : zS) (this : Nat) : Option (zS) := (zpI u0 4 (some this) 0 0).bind fun u1 => (zpI u1 4 (some this) 1 0).bind fun u2 => (znw u2 (.inl (.int, 42))).bind <| zk fun a3 u4 => (zpR u4 4 (some this) 2 (some a3)).bind fun u5 => (znw u5 (.inl (.int, 896))).bind <| zk fun a6 u7 => (zpR u7 4 (some this) 3 (some a6)).bind fun u8 => (znw u8 (.inl (.int, 6))).bind <| zk fun a9 u10 => (zpR u10 4 (some this) 4 (some a9)).bind fun u11 => some u11
set_option maxHeartbeats 4000000 in
set_option maxRecDepth 100000 in
theorem B_Plan_init (g : zG) (d : Nat) {u0 : zS} {this : Nat} {o : zS} (h : F_Plan_init u0 this = some o) : zMt g zy_Plan_init (d + 1) 3 944 [zr g (some this)] u0 none o := by
  refine zMt_of2 (ls := [some (zr g (some this))]) 0 (by decide +kernel) (by simp [lg_sl, zr_cat, zcI, zcJ]) (by simp [zal, zr_cat, zcI, zcJ, List.replicate]) ?_
  revert h
  show zJ g zy_Plan_init (d + 1) 3 944 zwV o 0 0 0 [some (zr g (some this))] [] u0 (F_Plan_init u0 this)
  unfold F_Plan_init
  refine zj_aload_n d_Plan_init_0 rfl ?_
  refine zj_objInit ⟨_, rfl⟩ oi_Plan_3 oi_i oi_c (by omega) (by decide) d_Plan_init_1 ?_
  refine zj_aload_n d_Plan_init_4 rfl ?_
  refine zj_iconst 0 d_Plan_init_5 (by decide) ?_
  refine zj_putI fl_Plan_9 (fun _ _ _ _ => rfl) ⟨rfl, rfl⟩ d_Plan_init_6 (fun u1 => ?_)
  refine zj_aload_n d_Plan_init_9 rfl ?_
  refine zj_iconst 0 d_Plan_init_10 (by decide) ?_
  refine zj_putI fl_Plan_15 (fun _ _ _ _ => rfl) ⟨rfl, rfl⟩ d_Plan_init_11 (fun u2 => ?_)
  refine zj_aload_n d_Plan_init_14 rfl ?_
  refine zj_bipush 42 d_Plan_init_15 (by decide) ?_
  refine zj_newa (N := 42) 0 rfl rfl (by simp) ac_I (by decide) (by decide) (by decide) (by decide) d_Plan_init_17 (fun a3 u4 => ?_)
  refine zj_putFR fl_Plan_18 ⟨rfl, rfl⟩ (fun _ _ _ _ => rfl) (znfA _) d_Plan_init_19 (fun u5 => ?_)
  refine zj_aload_n d_Plan_init_22 rfl ?_
  refine zj_sipush 896 d_Plan_init_23 (by decide) ?_
  refine zj_newa (N := 896) 0 rfl rfl (by simp) ac_I (by decide) (by decide) (by decide) (by decide) d_Plan_init_26 (fun a6 u7 => ?_)
  refine zj_putFR fl_Plan_22 ⟨rfl, rfl⟩ (fun _ _ _ _ => rfl) (znfA _) d_Plan_init_28 (fun u8 => ?_)
  refine zj_aload_n d_Plan_init_31 rfl ?_
  refine zj_bipush 6 d_Plan_init_32 (by decide) ?_
  refine zj_newa (N := 6) 0 rfl rfl (by simp) ac_I (by decide) (by decide) (by decide) (by decide) d_Plan_init_34 (fun a9 u10 => ?_)
  refine zj_putFR fl_Plan_25 ⟨rfl, rfl⟩ (fun _ _ _ _ => rfl) (znfA _) d_Plan_init_36 (fun u11 => ?_)
  exact zj_vret rfl rfl rfl rfl d_Plan_init_39
def F_Plan_worthWith (u0 : zS) (this : Nat) (a1 : Int32) (a2 : Int32) (a3 : Int32) : Option (Int32) := if a3 = (-1) then ((zgI u0 4 (some this) 1).bind fun v5 => if ((v5 >>> (a1 &&& 31)) &&& 1) = 1 then (some (-1)) else ((zgR u0 4 (some this) 3).bind fun v6 => (zaI u0 .int v6 (((a1 + 1) * 128) + a2)).bind fun v7 => some v7)) else ((zgR u0 4 (some this) 2).bind fun v1 => (zaI u0 .int v1 ((a1 * 7) + a3)).bind fun v2 => (zgR u0 4 (some this) 3).bind fun v3 => (zaI u0 .int v3 (((a1 + 1) * 128) + (a2 &&& (((1 : Int32) <<< (a3 &&& 31)) ^^^ (-1))))).bind fun v4 => if v2 = (-1) then (some (-1)) else (if v4 = (-1) then (some (-1)) else (some (v2 + v4))))
set_option maxHeartbeats 4000000 in
set_option maxRecDepth 100000 in
theorem B_Plan_worthWith (g : zG) (d : Nat) {u0 : zS} {this : Nat} {a1 : Int32} {a2 : Int32} {a3 : Int32} {o : Int32} (h : F_Plan_worthWith u0 this a1 a2 a3 = some o) : zMt g zy_Plan_worthWith (d + 1) 0 0 [zr g (some this), .int a1, .int a2, .int a3] u0 (some (.int o)) u0 := by
  refine zMt_of2 (ls := [some (zr g (some this)), some (.int a1), some (.int a2), some (.int a3), none, none, none]) 3 (by decide +kernel) (by simp [lg_sl, zr_cat, zcI, zcJ]) (by simp [zal, zr_cat, zcI, zcJ, List.replicate]) ?_
  revert h
  show zJ g zy_Plan_worthWith (d + 1) 0 0 (zwIp u0) o 0 0 0 [some (zr g (some this)), some (.int a1), some (.int a2), some (.int a3), none, none, none] [] u0 (F_Plan_worthWith u0 this a1 a2 a3)
  unfold F_Plan_worthWith
  refine zj_iload_n d_Plan_worthWith_0 rfl ?_
  refine zj_iconst 1 d_Plan_worthWith_1 (by decide) ?_
  refine zj_iadd d_Plan_worthWith_2 ?_
  refine zj_sipush 128 d_Plan_worthWith_3 (by decide) ?_
  refine zj_imul d_Plan_worthWith_6 ?_
  refine zj_istore [some (zr g (some this)), some (.int a1), some (.int a2), some (.int a3), some (.int ((a1 + 1) * 128)), none, none] d_Plan_worthWith_7 (by decide) rfl rfl ?_
  refine zj_iload_n d_Plan_worthWith_9 rfl ?_
  refine zj_iconst (-1) d_Plan_worthWith_10 (by decide) ?_
  refine zj_icmp_ne 40 d_Plan_worthWith_11 rfl (fun _ => ?_) (fun _ => ?_)
  · refine zj_aload_n d_Plan_worthWith_40 rfl ?_
    refine zj_getR fl_Plan_18 (fun _ _ _ _ => rfl) d_Plan_worthWith_41 (fun v1 => ?_)
    refine zj_iload_n d_Plan_worthWith_44 rfl ?_
    refine zj_bipush 7 d_Plan_worthWith_45 (by decide) ?_
    refine zj_imul d_Plan_worthWith_47 ?_
    refine zj_iload_n d_Plan_worthWith_48 rfl ?_
    refine zj_iadd d_Plan_worthWith_49 ?_
    refine zj_iaload d_Plan_worthWith_50 (fun v2 => ?_)
    refine zj_istore [some (zr g (some this)), some (.int a1), some (.int a2), some (.int a3), some (.int ((a1 + 1) * 128)), some (.int v2), none] d_Plan_worthWith_51 (by decide) rfl rfl ?_
    refine zj_aload_n d_Plan_worthWith_53 rfl ?_
    refine zj_getR fl_Plan_22 (fun _ _ _ _ => rfl) d_Plan_worthWith_54 (fun v3 => ?_)
    refine zj_iload d_Plan_worthWith_57 rfl ?_
    refine zj_iload_n d_Plan_worthWith_59 rfl ?_
    refine zj_iconst 1 d_Plan_worthWith_60 (by decide) ?_
    refine zj_iload_n d_Plan_worthWith_61 rfl ?_
    refine zj_ishl d_Plan_worthWith_62 ?_
    refine zj_iconst (-1) d_Plan_worthWith_63 (by decide) ?_
    refine zj_ixor d_Plan_worthWith_64 ?_
    refine zj_iand d_Plan_worthWith_65 ?_
    refine zj_iadd d_Plan_worthWith_66 ?_
    refine zj_iaload d_Plan_worthWith_67 (fun v4 => ?_)
    refine zj_istore [some (zr g (some this)), some (.int a1), some (.int a2), some (.int a3), some (.int ((a1 + 1) * 128)), some (.int v2), some (.int v4)] d_Plan_worthWith_68 (by decide) rfl rfl ?_
    refine zj_iload d_Plan_worthWith_70 rfl ?_
    refine zj_iconst (-1) d_Plan_worthWith_72 (by decide) ?_
    refine zj_icmp_eq 82 d_Plan_worthWith_73 rfl (fun _ => ?_) (fun _ => ?_)
    · refine zj_iconst (-1) d_Plan_worthWith_82 (by decide) ?_
      refine zj_goto 91 d_Plan_worthWith_83 rfl ?_
      exact zj_iret rfl rfl rfl rfl d_Plan_worthWith_91
    refine zj_iload d_Plan_worthWith_76 rfl ?_
    refine zj_iconst (-1) d_Plan_worthWith_78 (by decide) ?_
    refine zj_icmp_ne 86 d_Plan_worthWith_79 rfl (fun _ => ?_) (fun _ => ?_)
    · refine zj_iload d_Plan_worthWith_86 rfl ?_
      refine zj_iload d_Plan_worthWith_88 rfl ?_
      refine zj_iadd d_Plan_worthWith_90 ?_
      exact zj_iret rfl rfl rfl rfl d_Plan_worthWith_91
    refine zj_iconst (-1) d_Plan_worthWith_82 (by decide) ?_
    refine zj_goto 91 d_Plan_worthWith_83 rfl ?_
    exact zj_iret rfl rfl rfl rfl d_Plan_worthWith_91
  refine zj_aload_n d_Plan_worthWith_14 rfl ?_
  refine zj_getI fl_Plan_15 (fun _ _ _ _ => rfl) d_Plan_worthWith_15 (fun v5 => ?_)
  refine zj_iload_n d_Plan_worthWith_18 rfl ?_
  refine zj_ishr d_Plan_worthWith_19 ?_
  refine zj_iconst 1 d_Plan_worthWith_20 (by decide) ?_
  refine zj_iand d_Plan_worthWith_21 ?_
  refine zj_iconst 1 d_Plan_worthWith_22 (by decide) ?_
  refine zj_icmp_ne 30 d_Plan_worthWith_23 rfl (fun _ => ?_) (fun _ => ?_)
  · refine zj_aload_n d_Plan_worthWith_30 rfl ?_
    refine zj_getR fl_Plan_22 (fun _ _ _ _ => rfl) d_Plan_worthWith_31 (fun v6 => ?_)
    refine zj_iload d_Plan_worthWith_34 rfl ?_
    refine zj_iload_n d_Plan_worthWith_36 rfl ?_
    refine zj_iadd d_Plan_worthWith_37 ?_
    refine zj_iaload d_Plan_worthWith_38 (fun v7 => ?_)
    exact zj_iret rfl rfl rfl rfl d_Plan_worthWith_39
  refine zj_iconst (-1) d_Plan_worthWith_26 (by decide) ?_
  refine zj_goto 39 d_Plan_worthWith_27 rfl ?_
  exact zj_iret rfl rfl rfl rfl d_Plan_worthWith_39
def F_Reader_init (u0 : zS) (this : Nat) (a1 : Option Nat) : Option (zS) := (zpI u0 5 (some this) 0 0).bind fun u1 => (znw u1 (.inl (.int, 160))).bind <| zk fun a2 u3 => (zpR u3 5 (some this) 1 (some a2)).bind fun u4 => (zpI u4 5 (some this) 3 0).bind fun u5 => (zpI u5 5 (some this) 4 13).bind fun u6 => (zpI u6 5 (some this) 5 0).bind fun u7 => (zpI u7 5 (some this) 6 0).bind fun u8 => (zpI u8 5 (some this) 7 (-1)).bind fun u9 => (zpR u9 5 (some this) 2 a1).bind fun u10 => some u10
set_option maxHeartbeats 4000000 in
set_option maxRecDepth 100000 in
theorem B_Reader_init (g : zG) (d : Nat) {u0 : zS} {this : Nat} {a1 : Option Nat} {o : zS} (h : F_Reader_init u0 this a1 = some o) : zMt g zy_Reader_init (d + 1) 1 160 [zr g (some this), zr g a1] u0 none o := by
  refine zMt_of2 (ls := [some (zr g (some this)), some (zr g a1)]) 0 (by decide +kernel) (by simp [lg_sl, zr_cat, zcI, zcJ]) (by simp [zal, zr_cat, zcI, zcJ, List.replicate]) ?_
  revert h
  show zJ g zy_Reader_init (d + 1) 1 160 zwV o 0 0 0 [some (zr g (some this)), some (zr g a1)] [] u0 (F_Reader_init u0 this a1)
  unfold F_Reader_init
  refine zj_aload_n d_Reader_init_0 rfl ?_
  refine zj_objInit ⟨_, rfl⟩ oi_Reader_3 oi_i oi_c (by omega) (by decide) d_Reader_init_1 ?_
  refine zj_aload_n d_Reader_init_4 rfl ?_
  refine zj_iconst 0 d_Reader_init_5 (by decide) ?_
  refine zj_putI fl_Reader_9 (fun _ _ _ _ => rfl) ⟨rfl, rfl⟩ d_Reader_init_6 (fun u1 => ?_)
  refine zj_aload_n d_Reader_init_9 rfl ?_
  refine zj_sipush 160 d_Reader_init_10 (by decide) ?_
  refine zj_newa (N := 160) 0 rfl rfl (by simp) ac_I (by decide) (by decide) (by decide) (by decide) d_Reader_init_13 (fun a2 u3 => ?_)
  refine zj_putFR fl_Reader_15 ⟨rfl, rfl⟩ (fun _ _ _ _ => rfl) (znfA _) d_Reader_init_15 (fun u4 => ?_)
  refine zj_aload_n d_Reader_init_18 rfl ?_
  refine zj_iconst 0 d_Reader_init_19 (by decide) ?_
  refine zj_putI fl_Reader_19 (fun _ _ _ _ => rfl) ⟨rfl, rfl⟩ d_Reader_init_20 (fun u5 => ?_)
  refine zj_aload_n d_Reader_init_23 rfl ?_
  refine zj_bipush 13 d_Reader_init_24 (by decide) ?_
  refine zj_putI fl_Reader_22 (fun _ _ _ _ => rfl) ⟨rfl, rfl⟩ d_Reader_init_26 (fun u6 => ?_)
  refine zj_aload_n d_Reader_init_29 rfl ?_
  refine zj_iconst 0 d_Reader_init_30 (by decide) ?_
  refine zj_putI fl_Reader_25 (fun _ _ _ _ => rfl) ⟨rfl, rfl⟩ d_Reader_init_31 (fun u7 => ?_)
  refine zj_aload_n d_Reader_init_34 rfl ?_
  refine zj_iconst 0 d_Reader_init_35 (by decide) ?_
  refine zj_putI fl_Reader_28 (fun _ _ _ _ => rfl) ⟨rfl, rfl⟩ d_Reader_init_36 (fun u8 => ?_)
  refine zj_aload_n d_Reader_init_39 rfl ?_
  refine zj_iconst (-1) d_Reader_init_40 (by decide) ?_
  refine zj_putI fl_Reader_31 (fun _ _ _ _ => rfl) ⟨rfl, rfl⟩ d_Reader_init_41 (fun u9 => ?_)
  refine zj_aload_n d_Reader_init_44 rfl ?_
  refine zj_aload_n d_Reader_init_45 rfl ?_
  refine zj_putR fl_Reader_34 (fun _ _ _ _ => rfl) (znfO _) d_Reader_init_46 (fun u10 => ?_)
  exact zj_vret rfl rfl rfl rfl d_Reader_init_49
