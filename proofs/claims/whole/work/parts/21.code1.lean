def F_Reader_isDigit (u0 : zS) (a1 : Int32) : Option (Int32) := if a1 < 48 then (some 0) else (if 57 < a1 then (some 0) else (some 1))
set_option maxHeartbeats 4000000 in
set_option maxRecDepth 100000 in
theorem B_Reader_isDigit (g : zG) (d : Nat) {u0 : zS} {a1 : Int32} {o : Int32} (h : F_Reader_isDigit u0 a1 = some o) : zMt g zy_Reader_isDigit (d + 1) 0 0 [.int a1] u0 (some (.int o)) u0 := by
  refine zMt_of2 (ls := [some (.int a1)]) 0 (by decide +kernel) (by simp [lg_sl, zr_cat, zcI, zcJ]) (by simp [zal, zr_cat, zcI, zcJ, List.replicate]) ?_
  revert h
  show zJ g zy_Reader_isDigit (d + 1) 0 0 (zwIp u0) o 0 0 0 [some (.int a1)] [] u0 (F_Reader_isDigit u0 a1)
  unfold F_Reader_isDigit
  refine zj_iload_n d_Reader_isDigit_0 rfl ?_
  refine zj_bipush 48 d_Reader_isDigit_1 (by decide) ?_
  refine zj_icmp_lt 16 d_Reader_isDigit_3 rfl (fun _ => ?_) (fun _ => ?_)
  · refine zj_iconst 0 d_Reader_isDigit_16 (by decide) ?_
    exact zj_zretL (by decide) rfl rfl rfl rfl d_Reader_isDigit_17
  refine zj_iload_n d_Reader_isDigit_6 rfl ?_
  refine zj_bipush 57 d_Reader_isDigit_7 (by decide) ?_
  refine zj_icmp_gt 16 d_Reader_isDigit_9 rfl (fun _ => ?_) (fun _ => ?_)
  · refine zj_iconst 0 d_Reader_isDigit_16 (by decide) ?_
    exact zj_zretL (by decide) rfl rfl rfl rfl d_Reader_isDigit_17
  refine zj_iconst 1 d_Reader_isDigit_12 (by decide) ?_
  refine zj_goto 17 d_Reader_isDigit_13 rfl ?_
  exact zj_zretL (by decide) rfl rfl rfl rfl d_Reader_isDigit_17
def F_Reader_isLetter (u0 : zS) (a1 : Int32) : Option (Int32) := if a1 < 97 then (some 0) else (if 122 < a1 then (some 0) else (some 1))
set_option maxHeartbeats 4000000 in
set_option maxRecDepth 100000 in
theorem B_Reader_isLetter (g : zG) (d : Nat) {u0 : zS} {a1 : Int32} {o : Int32} (h : F_Reader_isLetter u0 a1 = some o) : zMt g zy_Reader_isLetter (d + 1) 0 0 [.int a1] u0 (some (.int o)) u0 := by
  refine zMt_of2 (ls := [some (.int a1)]) 0 (by decide +kernel) (by simp [lg_sl, zr_cat, zcI, zcJ]) (by simp [zal, zr_cat, zcI, zcJ, List.replicate]) ?_
  revert h
  show zJ g zy_Reader_isLetter (d + 1) 0 0 (zwIp u0) o 0 0 0 [some (.int a1)] [] u0 (F_Reader_isLetter u0 a1)
  unfold F_Reader_isLetter
  refine zj_iload_n d_Reader_isLetter_0 rfl ?_
  refine zj_bipush 97 d_Reader_isLetter_1 (by decide) ?_
  refine zj_icmp_lt 16 d_Reader_isLetter_3 rfl (fun _ => ?_) (fun _ => ?_)
  · refine zj_iconst 0 d_Reader_isLetter_16 (by decide) ?_
    exact zj_zretL (by decide) rfl rfl rfl rfl d_Reader_isLetter_17
  refine zj_iload_n d_Reader_isLetter_6 rfl ?_
  refine zj_bipush 122 d_Reader_isLetter_7 (by decide) ?_
  refine zj_icmp_gt 16 d_Reader_isLetter_9 rfl (fun _ => ?_) (fun _ => ?_)
  · refine zj_iconst 0 d_Reader_isLetter_16 (by decide) ?_
    exact zj_zretL (by decide) rfl rfl rfl rfl d_Reader_isLetter_17
  refine zj_iconst 1 d_Reader_isLetter_12 (by decide) ?_
  refine zj_goto 17 d_Reader_isLetter_13 rfl ?_
  exact zj_zretL (by decide) rfl rfl rfl rfl d_Reader_isLetter_17
def F_Reader_isSign (u0 : zS) (a1 : Int32) : Option (Int32) := if a1 = 40 then (some 1) else (if a1 = 41 then (some 1) else (if a1 = 59 then (some 1) else (if a1 = 43 then (some 1) else (if a1 = 45 then (some 1) else (if a1 = 42 then (some 1) else (if a1 = 60 then (some 1) else (if a1 = 61 then (some 1) else (some 0))))))))
set_option maxHeartbeats 4000000 in
set_option maxRecDepth 100000 in
theorem B_Reader_isSign (g : zG) (d : Nat) {u0 : zS} {a1 : Int32} {o : Int32} (h : F_Reader_isSign u0 a1 = some o) : zMt g zy_Reader_isSign (d + 1) 0 0 [.int a1] u0 (some (.int o)) u0 := by
  refine zMt_of2 (ls := [some (.int a1)]) 0 (by decide +kernel) (by simp [lg_sl, zr_cat, zcI, zcJ]) (by simp [zal, zr_cat, zcI, zcJ, List.replicate]) ?_
  revert h
  show zJ g zy_Reader_isSign (d + 1) 0 0 (zwIp u0) o 0 0 0 [some (.int a1)] [] u0 (F_Reader_isSign u0 a1)
  unfold F_Reader_isSign
  refine zj_iload_n d_Reader_isSign_0 rfl ?_
  refine zj_bipush 40 d_Reader_isSign_1 (by decide) ?_
  refine zj_icmp_eq 48 d_Reader_isSign_3 rfl (fun _ => ?_) (fun _ => ?_)
  · refine zj_iconst 1 d_Reader_isSign_48 (by decide) ?_
    refine zj_goto 53 d_Reader_isSign_49 rfl ?_
    exact zj_zretL (by decide) rfl rfl rfl rfl d_Reader_isSign_53
  refine zj_iload_n d_Reader_isSign_6 rfl ?_
  refine zj_bipush 41 d_Reader_isSign_7 (by decide) ?_
  refine zj_icmp_eq 48 d_Reader_isSign_9 rfl (fun _ => ?_) (fun _ => ?_)
  · refine zj_iconst 1 d_Reader_isSign_48 (by decide) ?_
    refine zj_goto 53 d_Reader_isSign_49 rfl ?_
    exact zj_zretL (by decide) rfl rfl rfl rfl d_Reader_isSign_53
  refine zj_iload_n d_Reader_isSign_12 rfl ?_
  refine zj_bipush 59 d_Reader_isSign_13 (by decide) ?_
  refine zj_icmp_eq 48 d_Reader_isSign_15 rfl (fun _ => ?_) (fun _ => ?_)
  · refine zj_iconst 1 d_Reader_isSign_48 (by decide) ?_
    refine zj_goto 53 d_Reader_isSign_49 rfl ?_
    exact zj_zretL (by decide) rfl rfl rfl rfl d_Reader_isSign_53
  refine zj_iload_n d_Reader_isSign_18 rfl ?_
  refine zj_bipush 43 d_Reader_isSign_19 (by decide) ?_
  refine zj_icmp_eq 48 d_Reader_isSign_21 rfl (fun _ => ?_) (fun _ => ?_)
  · refine zj_iconst 1 d_Reader_isSign_48 (by decide) ?_
    refine zj_goto 53 d_Reader_isSign_49 rfl ?_
    exact zj_zretL (by decide) rfl rfl rfl rfl d_Reader_isSign_53
  refine zj_iload_n d_Reader_isSign_24 rfl ?_
  refine zj_bipush 45 d_Reader_isSign_25 (by decide) ?_
  refine zj_icmp_eq 48 d_Reader_isSign_27 rfl (fun _ => ?_) (fun _ => ?_)
  · refine zj_iconst 1 d_Reader_isSign_48 (by decide) ?_
    refine zj_goto 53 d_Reader_isSign_49 rfl ?_
    exact zj_zretL (by decide) rfl rfl rfl rfl d_Reader_isSign_53
  refine zj_iload_n d_Reader_isSign_30 rfl ?_
  refine zj_bipush 42 d_Reader_isSign_31 (by decide) ?_
  refine zj_icmp_eq 48 d_Reader_isSign_33 rfl (fun _ => ?_) (fun _ => ?_)
  · refine zj_iconst 1 d_Reader_isSign_48 (by decide) ?_
    refine zj_goto 53 d_Reader_isSign_49 rfl ?_
    exact zj_zretL (by decide) rfl rfl rfl rfl d_Reader_isSign_53
  refine zj_iload_n d_Reader_isSign_36 rfl ?_
  refine zj_bipush 60 d_Reader_isSign_37 (by decide) ?_
  refine zj_icmp_eq 48 d_Reader_isSign_39 rfl (fun _ => ?_) (fun _ => ?_)
  · refine zj_iconst 1 d_Reader_isSign_48 (by decide) ?_
    refine zj_goto 53 d_Reader_isSign_49 rfl ?_
    exact zj_zretL (by decide) rfl rfl rfl rfl d_Reader_isSign_53
  refine zj_iload_n d_Reader_isSign_42 rfl ?_
  refine zj_bipush 61 d_Reader_isSign_43 (by decide) ?_
  refine zj_icmp_ne 52 d_Reader_isSign_45 rfl (fun _ => ?_) (fun _ => ?_)
  · refine zj_iconst 0 d_Reader_isSign_52 (by decide) ?_
    exact zj_zretL (by decide) rfl rfl rfl rfl d_Reader_isSign_53
  refine zj_iconst 1 d_Reader_isSign_48 (by decide) ?_
  refine zj_goto 53 d_Reader_isSign_49 rfl ?_
  exact zj_zretL (by decide) rfl rfl rfl rfl d_Reader_isSign_53
def F_Reader_refuse (u0 : zS) (this : Nat) : Option (zS) := (zgI u0 5 (some this) 7).bind fun v1 => zjn1 (fun (j3 : zS → Option (zS)) => if v1 = (-1) then ((zgI u0 5 (some this) 5).bind fun v7 => (zpI u0 5 (some this) 7 v7).bind fun u8 => j3 u8) else (j3 u0)) (fun (u2 : zS) => (zpI u2 5 (some this) 4 13).bind fun u4 => (zgI u4 5 (some this) 0).bind fun v5 => (zpI u4 5 (some this) 3 v5).bind fun u6 => some u6)
set_option maxHeartbeats 4000000 in
set_option maxRecDepth 100000 in
theorem B_Reader_refuse (g : zG) (d : Nat) {u0 : zS} {this : Nat} {o : zS} (h : F_Reader_refuse u0 this = some o) : zMt g zy_Reader_refuse (d + 1) 0 0 [zr g (some this)] u0 none o := by
  refine zMt_of2 (ls := [some (zr g (some this))]) 0 (by decide +kernel) (by simp [lg_sl, zr_cat, zcI, zcJ]) (by simp [zal, zr_cat, zcI, zcJ, List.replicate]) ?_
  revert h
  show zJ g zy_Reader_refuse (d + 1) 0 0 zwV o 0 0 0 [some (zr g (some this))] [] u0 (F_Reader_refuse u0 this)
  unfold F_Reader_refuse
  refine zj_aload_n d_Reader_refuse_0 rfl ?_
  refine zj_getI fl_Reader_31 (fun _ _ _ _ => rfl) d_Reader_refuse_1 (fun v1 => ?_)
  refine zj_iconst (-1) d_Reader_refuse_4 (by decide) ?_
  refine zj_jn1 (pcj := 16) (fun u2 => [some (zr g (some this))]) (fun u2 => []) (fun u2 => u2) (fun u2 => ?_) (fun j3 hj3 => ?_)
  · refine zj_aload_n d_Reader_refuse_16 rfl ?_
    refine zj_bipush 13 d_Reader_refuse_17 (by decide) ?_
    refine zj_putI fl_Reader_22 (fun _ _ _ _ => rfl) ⟨rfl, rfl⟩ d_Reader_refuse_19 (fun u4 => ?_)
    refine zj_aload_n d_Reader_refuse_22 rfl ?_
    refine zj_aload_n d_Reader_refuse_23 rfl ?_
    refine zj_getI fl_Reader_9 (fun _ _ _ _ => rfl) d_Reader_refuse_24 (fun v5 => ?_)
    refine zj_putI fl_Reader_19 (fun _ _ _ _ => rfl) ⟨rfl, rfl⟩ d_Reader_refuse_27 (fun u6 => ?_)
    exact zj_vret rfl rfl rfl rfl d_Reader_refuse_30
  refine zj_icmp_ne 16 d_Reader_refuse_5 rfl (fun _ => ?_) (fun _ => ?_)
  · exact hj3 u0
  refine zj_aload_n d_Reader_refuse_8 rfl ?_
  refine zj_aload_n d_Reader_refuse_9 rfl ?_
  refine zj_getI fl_Reader_25 (fun _ _ _ _ => rfl) d_Reader_refuse_10 (fun v7 => ?_)
  refine zj_putI fl_Reader_31 (fun _ _ _ _ => rfl) ⟨rfl, rfl⟩ d_Reader_refuse_13 (fun u8 => ?_)
  exact hj3 u8
def F_Reader_take (u0 : zS) (this : Nat) (a1 : Int32) : Option (zS) := (zgI u0 5 (some this) 0).bind fun v1 => if 160 ≤ v1 then (some u0) else ((zgR u0 5 (some this) 1).bind fun v2 => (zgI u0 5 (some this) 0).bind fun v3 => (zsI u0 v2 v3 a1).bind fun u4 => (zgI u4 5 (some this) 0).bind fun v5 => (zpI u4 5 (some this) 0 (v5 + 1)).bind fun u6 => some u6)
set_option maxHeartbeats 4000000 in
set_option maxRecDepth 100000 in
theorem B_Reader_take (g : zG) (d : Nat) {u0 : zS} {this : Nat} {a1 : Int32} {o : zS} (h : F_Reader_take u0 this a1 = some o) : zMt g zy_Reader_take (d + 1) 0 0 [zr g (some this), .int a1] u0 none o := by
  refine zMt_of2 (ls := [some (zr g (some this)), some (.int a1)]) 0 (by decide +kernel) (by simp [lg_sl, zr_cat, zcI, zcJ]) (by simp [zal, zr_cat, zcI, zcJ, List.replicate]) ?_
  revert h
  show zJ g zy_Reader_take (d + 1) 0 0 zwV o 0 0 0 [some (zr g (some this)), some (.int a1)] [] u0 (F_Reader_take u0 this a1)
  unfold F_Reader_take
  refine zj_aload_n d_Reader_take_0 rfl ?_
  refine zj_getI fl_Reader_9 (fun _ _ _ _ => rfl) d_Reader_take_1 (fun v1 => ?_)
  refine zj_sipush 160 d_Reader_take_4 (by decide) ?_
  refine zj_icmp_ge 30 d_Reader_take_7 rfl (fun _ => ?_) (fun _ => ?_)
  · exact zj_vret rfl rfl rfl rfl d_Reader_take_30
  refine zj_aload_n d_Reader_take_10 rfl ?_
  refine zj_getR fl_Reader_15 (fun _ _ _ _ => rfl) d_Reader_take_11 (fun v2 => ?_)
  refine zj_aload_n d_Reader_take_14 rfl ?_
  refine zj_getI fl_Reader_9 (fun _ _ _ _ => rfl) d_Reader_take_15 (fun v3 => ?_)
  refine zj_iload_n d_Reader_take_18 rfl ?_
  refine zj_iastore d_Reader_take_19 (fun u4 => ?_)
  refine zj_aload_n d_Reader_take_20 rfl ?_
  refine zj_dup d_Reader_take_21 (zr_cat _ _) ?_
  refine zj_getI fl_Reader_9 (fun _ _ _ _ => rfl) d_Reader_take_22 (fun v5 => ?_)
  refine zj_iconst 1 d_Reader_take_25 (by decide) ?_
  refine zj_iadd d_Reader_take_26 ?_
  refine zj_putI fl_Reader_9 (fun _ _ _ _ => rfl) ⟨rfl, rfl⟩ d_Reader_take_27 (fun u6 => ?_)
  exact zj_vret rfl rfl rfl rfl d_Reader_take_30
def F_Sheet_init (u0 : zS) (this : Nat) : Option (zS) := (zpI u0 6 (some this) 0 (-1)).bind fun u1 => (zpI u1 6 (some this) 1 0).bind fun u2 => (znw u2 (.inl (.int, 40))).bind <| zk fun a3 u4 => (zpR u4 6 (some this) 2 (some a3)).bind fun u5 => some u5
set_option maxHeartbeats 4000000 in
set_option maxRecDepth 100000 in
theorem B_Sheet_init (g : zG) (d : Nat) {u0 : zS} {this : Nat} {o : zS} (h : F_Sheet_init u0 this = some o) : zMt g zy_Sheet_init (d + 1) 1 40 [zr g (some this)] u0 none o := by
  refine zMt_of2 (ls := [some (zr g (some this))]) 0 (by decide +kernel) (by simp [lg_sl, zr_cat, zcI, zcJ]) (by simp [zal, zr_cat, zcI, zcJ, List.replicate]) ?_
  revert h
  show zJ g zy_Sheet_init (d + 1) 1 40 zwV o 0 0 0 [some (zr g (some this))] [] u0 (F_Sheet_init u0 this)
  unfold F_Sheet_init
  refine zj_aload_n d_Sheet_init_0 rfl ?_
  refine zj_objInit ⟨_, rfl⟩ oi_Sheet_3 oi_i oi_c (by omega) (by decide) d_Sheet_init_1 ?_
  refine zj_aload_n d_Sheet_init_4 rfl ?_
  refine zj_iconst (-1) d_Sheet_init_5 (by decide) ?_
  refine zj_putI fl_Sheet_11 (fun _ _ _ _ => rfl) ⟨rfl, rfl⟩ d_Sheet_init_6 (fun u1 => ?_)
  refine zj_aload_n d_Sheet_init_9 rfl ?_
  refine zj_iconst 0 d_Sheet_init_10 (by decide) ?_
  refine zj_putI fl_Sheet_15 (fun _ _ _ _ => rfl) ⟨rfl, rfl⟩ d_Sheet_init_11 (fun u2 => ?_)
  refine zj_aload_n d_Sheet_init_14 rfl ?_
  refine zj_bipush 40 d_Sheet_init_15 (by decide) ?_
  refine zj_newa (N := 40) 0 rfl rfl (by simp) ac_I (by decide) (by decide) (by decide) (by decide) d_Sheet_init_17 (fun a3 u4 => ?_)
  refine zj_putFR fl_Sheet_18 ⟨rfl, rfl⟩ (fun _ _ _ _ => rfl) (znfA _) d_Sheet_init_19 (fun u5 => ?_)
  exact zj_vret rfl rfl rfl rfl d_Sheet_init_22
def F_Sheet_has (u0 : zS) (this : Nat) (a1 : Int32) : Option (Int32) := if a1 < 0 then (some 0) else ((zgI u0 6 (some this) 1).bind fun v1 => if v1 ≤ a1 then (some 0) else (some 1))
set_option maxHeartbeats 4000000 in
set_option maxRecDepth 100000 in
theorem B_Sheet_has (g : zG) (d : Nat) {u0 : zS} {this : Nat} {a1 : Int32} {o : Int32} (h : F_Sheet_has u0 this a1 = some o) : zMt g zy_Sheet_has (d + 1) 0 0 [zr g (some this), .int a1] u0 (some (.int o)) u0 := by
  refine zMt_of2 (ls := [some (zr g (some this)), some (.int a1)]) 0 (by decide +kernel) (by simp [lg_sl, zr_cat, zcI, zcJ]) (by simp [zal, zr_cat, zcI, zcJ, List.replicate]) ?_
  revert h
  show zJ g zy_Sheet_has (d + 1) 0 0 (zwIp u0) o 0 0 0 [some (zr g (some this)), some (.int a1)] [] u0 (F_Sheet_has u0 this a1)
  unfold F_Sheet_has
  refine zj_iload_n d_Sheet_has_0 rfl ?_
  refine zj_if_lt 16 d_Sheet_has_1 rfl (fun _ => ?_) (fun _ => ?_)
  · refine zj_iconst 0 d_Sheet_has_16 (by decide) ?_
    exact zj_zretL (by decide) rfl rfl rfl rfl d_Sheet_has_17
  refine zj_iload_n d_Sheet_has_4 rfl ?_
  refine zj_aload_n d_Sheet_has_5 rfl ?_
  refine zj_getI fl_Sheet_15 (fun _ _ _ _ => rfl) d_Sheet_has_6 (fun v1 => ?_)
  refine zj_icmp_ge 16 d_Sheet_has_9 rfl (fun _ => ?_) (fun _ => ?_)
  · refine zj_iconst 0 d_Sheet_has_16 (by decide) ?_
    exact zj_zretL (by decide) rfl rfl rfl rfl d_Sheet_has_17
  refine zj_iconst 1 d_Sheet_has_12 (by decide) ?_
  refine zj_goto 17 d_Sheet_has_13 rfl ?_
  exact zj_zretL (by decide) rfl rfl rfl rfl d_Sheet_has_17
def F_Sheet_hasRun (u0 : zS) (this : Nat) (a1 : Int32) (a2 : Int32) : Option (Int32) := if a1 < 0 then (some 0) else (if a2 < 0 then (some 0) else ((zgI u0 6 (some this) 1).bind fun v1 => if v1 < a2 then (some 0) else ((zgI u0 6 (some this) 1).bind fun v2 => if (v2 - a2) < a1 then (some 0) else (some 1))))
set_option maxHeartbeats 4000000 in
set_option maxRecDepth 100000 in
theorem B_Sheet_hasRun (g : zG) (d : Nat) {u0 : zS} {this : Nat} {a1 : Int32} {a2 : Int32} {o : Int32} (h : F_Sheet_hasRun u0 this a1 a2 = some o) : zMt g zy_Sheet_hasRun (d + 1) 0 0 [zr g (some this), .int a1, .int a2] u0 (some (.int o)) u0 := by
  refine zMt_of2 (ls := [some (zr g (some this)), some (.int a1), some (.int a2)]) 0 (by decide +kernel) (by simp [lg_sl, zr_cat, zcI, zcJ]) (by simp [zal, zr_cat, zcI, zcJ, List.replicate]) ?_
  revert h
  show zJ g zy_Sheet_hasRun (d + 1) 0 0 (zwIp u0) o 0 0 0 [some (zr g (some this)), some (.int a1), some (.int a2)] [] u0 (F_Sheet_hasRun u0 this a1 a2)
  unfold F_Sheet_hasRun
  refine zj_iload_n d_Sheet_hasRun_0 rfl ?_
  refine zj_if_lt 30 d_Sheet_hasRun_1 rfl (fun _ => ?_) (fun _ => ?_)
  · refine zj_iconst 0 d_Sheet_hasRun_30 (by decide) ?_
    exact zj_zretL (by decide) rfl rfl rfl rfl d_Sheet_hasRun_31
  refine zj_iload_n d_Sheet_hasRun_4 rfl ?_
  refine zj_if_lt 30 d_Sheet_hasRun_5 rfl (fun _ => ?_) (fun _ => ?_)
  · refine zj_iconst 0 d_Sheet_hasRun_30 (by decide) ?_
    exact zj_zretL (by decide) rfl rfl rfl rfl d_Sheet_hasRun_31
  refine zj_iload_n d_Sheet_hasRun_8 rfl ?_
  refine zj_aload_n d_Sheet_hasRun_9 rfl ?_
  refine zj_getI fl_Sheet_15 (fun _ _ _ _ => rfl) d_Sheet_hasRun_10 (fun v1 => ?_)
  refine zj_icmp_gt 30 d_Sheet_hasRun_13 rfl (fun _ => ?_) (fun _ => ?_)
  · refine zj_iconst 0 d_Sheet_hasRun_30 (by decide) ?_
    exact zj_zretL (by decide) rfl rfl rfl rfl d_Sheet_hasRun_31
  refine zj_iload_n d_Sheet_hasRun_16 rfl ?_
  refine zj_aload_n d_Sheet_hasRun_17 rfl ?_
  refine zj_getI fl_Sheet_15 (fun _ _ _ _ => rfl) d_Sheet_hasRun_18 (fun v2 => ?_)
  refine zj_iload_n d_Sheet_hasRun_21 rfl ?_
  refine zj_isub d_Sheet_hasRun_22 ?_
  refine zj_icmp_gt 30 d_Sheet_hasRun_23 rfl (fun _ => ?_) (fun _ => ?_)
  · refine zj_iconst 0 d_Sheet_hasRun_30 (by decide) ?_
    exact zj_zretL (by decide) rfl rfl rfl rfl d_Sheet_hasRun_31
  refine zj_iconst 1 d_Sheet_hasRun_26 (by decide) ?_
  refine zj_goto 31 d_Sheet_hasRun_27 rfl ?_
  exact zj_zretL (by decide) rfl rfl rfl rfl d_Sheet_hasRun_31
def F_Sheet_isMissing (u0 : zS) (this : Nat) : Option (Int32) := (zgI u0 6 (some this) 0).bind fun v1 => if v1 = (-1) then (some 1) else (some 0)
set_option maxHeartbeats 4000000 in
set_option maxRecDepth 100000 in
theorem B_Sheet_isMissing (g : zG) (d : Nat) {u0 : zS} {this : Nat} {o : Int32} (h : F_Sheet_isMissing u0 this = some o) : zMt g zy_Sheet_isMissing (d + 1) 0 0 [zr g (some this)] u0 (some (.int o)) u0 := by
  refine zMt_of2 (ls := [some (zr g (some this))]) 0 (by decide +kernel) (by simp [lg_sl, zr_cat, zcI, zcJ]) (by simp [zal, zr_cat, zcI, zcJ, List.replicate]) ?_
  revert h
  show zJ g zy_Sheet_isMissing (d + 1) 0 0 (zwIp u0) o 0 0 0 [some (zr g (some this))] [] u0 (F_Sheet_isMissing u0 this)
  unfold F_Sheet_isMissing
  refine zj_aload_n d_Sheet_isMissing_0 rfl ?_
  refine zj_getI fl_Sheet_11 (fun _ _ _ _ => rfl) d_Sheet_isMissing_1 (fun v1 => ?_)
  refine zj_iconst (-1) d_Sheet_isMissing_4 (by decide) ?_
  refine zj_icmp_ne 12 d_Sheet_isMissing_5 rfl (fun _ => ?_) (fun _ => ?_)
  · refine zj_iconst 0 d_Sheet_isMissing_12 (by decide) ?_
    exact zj_zretL (by decide) rfl rfl rfl rfl d_Sheet_isMissing_13
  refine zj_iconst 1 d_Sheet_isMissing_8 (by decide) ?_
  refine zj_goto 13 d_Sheet_isMissing_9 rfl ?_
  exact zj_zretL (by decide) rfl rfl rfl rfl d_Sheet_isMissing_13
def F_Text_init (u0 : zS) (this : Nat) : Option (zS) := (znw u0 (.inl (.int, 160))).bind <| zk fun a1 u2 => (zpR u2 7 (some this) 0 (some a1)).bind fun u3 => (zpI u3 7 (some this) 1 0).bind fun u4 => (znw u4 (.inl (.int, 3))).bind <| zk fun a5 u6 => (zpR u6 7 (some this) 2 (some a5)).bind fun u7 => (znw u7 (.inl (.int, 40))).bind <| zk fun a8 u9 => (zpR u9 7 (some this) 3 (some a8)).bind fun u10 => some u10
set_option maxHeartbeats 4000000 in
set_option maxRecDepth 100000 in
theorem B_Text_init (g : zG) (d : Nat) {u0 : zS} {this : Nat} {o : zS} (h : F_Text_init u0 this = some o) : zMt g zy_Text_init (d + 1) 3 203 [zr g (some this)] u0 none o := by
  refine zMt_of2 (ls := [some (zr g (some this))]) 0 (by decide +kernel) (by simp [lg_sl, zr_cat, zcI, zcJ]) (by simp [zal, zr_cat, zcI, zcJ, List.replicate]) ?_
  revert h
  show zJ g zy_Text_init (d + 1) 3 203 zwV o 0 0 0 [some (zr g (some this))] [] u0 (F_Text_init u0 this)
  unfold F_Text_init
  refine zj_aload_n d_Text_init_0 rfl ?_
  refine zj_objInit ⟨_, rfl⟩ oi_Text_3 oi_i oi_c (by omega) (by decide) d_Text_init_1 ?_
  refine zj_aload_n d_Text_init_4 rfl ?_
  refine zj_sipush 160 d_Text_init_5 (by decide) ?_
  refine zj_newa (N := 160) 0 rfl rfl (by simp) ac_I (by decide) (by decide) (by decide) (by decide) d_Text_init_8 (fun a1 u2 => ?_)
  refine zj_putFR fl_Text_9 ⟨rfl, rfl⟩ (fun _ _ _ _ => rfl) (znfA _) d_Text_init_10 (fun u3 => ?_)
  refine zj_aload_n d_Text_init_13 rfl ?_
  refine zj_iconst 0 d_Text_init_14 (by decide) ?_
  refine zj_putI fl_Text_15 (fun _ _ _ _ => rfl) ⟨rfl, rfl⟩ d_Text_init_15 (fun u4 => ?_)
  refine zj_aload_n d_Text_init_18 rfl ?_
  refine zj_iconst 3 d_Text_init_19 (by decide) ?_
  refine zj_newa (N := 3) 0 rfl rfl (by simp) ac_I (by decide) (by decide) (by decide) (by decide) d_Text_init_20 (fun a5 u6 => ?_)
  refine zj_putFR fl_Text_19 ⟨rfl, rfl⟩ (fun _ _ _ _ => rfl) (znfA _) d_Text_init_22 (fun u7 => ?_)
  refine zj_aload_n d_Text_init_25 rfl ?_
  refine zj_bipush 40 d_Text_init_26 (by decide) ?_
  refine zj_newa (N := 40) 0 rfl rfl (by simp) ac_I (by decide) (by decide) (by decide) (by decide) d_Text_init_28 (fun a8 u9 => ?_)
  refine zj_putFR fl_Text_22 ⟨rfl, rfl⟩ (fun _ _ _ _ => rfl) (znfA _) d_Text_init_30 (fun u10 => ?_)
  exact zj_vret rfl rfl rfl rfl d_Text_init_33
def F_Text_add (u0 : zS) (this : Nat) (a1 : Int32) : Option (zS) := (zgI u0 7 (some this) 1).bind fun v1 => (zgR u0 7 (some this) 0).bind fun v2 => (zln u0 .int v2).bind fun v3 => if v3 ≤ v1 then (some u0) else ((zgR u0 7 (some this) 0).bind fun v4 => (zgI u0 7 (some this) 1).bind fun v5 => (zsI u0 v4 v5 a1).bind fun u6 => (zgI u6 7 (some this) 1).bind fun v7 => (zpI u6 7 (some this) 1 (v7 + 1)).bind fun u8 => some u8)
set_option maxHeartbeats 4000000 in
set_option maxRecDepth 100000 in
theorem B_Text_add (g : zG) (d : Nat) {u0 : zS} {this : Nat} {a1 : Int32} {o : zS} (h : F_Text_add u0 this a1 = some o) : zMt g zy_Text_add (d + 1) 0 0 [zr g (some this), .int a1] u0 none o := by
  refine zMt_of2 (ls := [some (zr g (some this)), some (.int a1)]) 0 (by decide +kernel) (by simp [lg_sl, zr_cat, zcI, zcJ]) (by simp [zal, zr_cat, zcI, zcJ, List.replicate]) ?_
  revert h
  show zJ g zy_Text_add (d + 1) 0 0 zwV o 0 0 0 [some (zr g (some this)), some (.int a1)] [] u0 (F_Text_add u0 this a1)
  unfold F_Text_add
  refine zj_aload_n d_Text_add_0 rfl ?_
  refine zj_getI fl_Text_15 (fun _ _ _ _ => rfl) d_Text_add_1 (fun v1 => ?_)
  refine zj_aload_n d_Text_add_4 rfl ?_
  refine zj_getR fl_Text_9 (fun _ _ _ _ => rfl) d_Text_add_5 (fun v2 => ?_)
  refine zj_alen 0 rfl d_Text_add_8 (fun v3 => ?_)
  refine zj_icmp_ge 32 d_Text_add_9 rfl (fun _ => ?_) (fun _ => ?_)
  · exact zj_vret rfl rfl rfl rfl d_Text_add_32
  refine zj_aload_n d_Text_add_12 rfl ?_
  refine zj_getR fl_Text_9 (fun _ _ _ _ => rfl) d_Text_add_13 (fun v4 => ?_)
  refine zj_aload_n d_Text_add_16 rfl ?_
  refine zj_getI fl_Text_15 (fun _ _ _ _ => rfl) d_Text_add_17 (fun v5 => ?_)
  refine zj_iload_n d_Text_add_20 rfl ?_
  refine zj_iastore d_Text_add_21 (fun u6 => ?_)
  refine zj_aload_n d_Text_add_22 rfl ?_
  refine zj_dup d_Text_add_23 (zr_cat _ _) ?_
  refine zj_getI fl_Text_15 (fun _ _ _ _ => rfl) d_Text_add_24 (fun v7 => ?_)
  refine zj_iconst 1 d_Text_add_27 (by decide) ?_
  refine zj_iadd d_Text_add_28 ?_
  refine zj_putI fl_Text_15 (fun _ _ _ _ => rfl) ⟨rfl, rfl⟩ d_Text_add_29 (fun u8 => ?_)
  exact zj_vret rfl rfl rfl rfl d_Text_add_32
def F_Text_clear (u0 : zS) (this : Nat) : Option (zS) := (zpI u0 7 (some this) 1 0).bind fun u1 => some u1
set_option maxHeartbeats 4000000 in
set_option maxRecDepth 100000 in
theorem B_Text_clear (g : zG) (d : Nat) {u0 : zS} {this : Nat} {o : zS} (h : F_Text_clear u0 this = some o) : zMt g zy_Text_clear (d + 1) 0 0 [zr g (some this)] u0 none o := by
  refine zMt_of2 (ls := [some (zr g (some this))]) 0 (by decide +kernel) (by simp [lg_sl, zr_cat, zcI, zcJ]) (by simp [zal, zr_cat, zcI, zcJ, List.replicate]) ?_
  revert h
  show zJ g zy_Text_clear (d + 1) 0 0 zwV o 0 0 0 [some (zr g (some this))] [] u0 (F_Text_clear u0 this)
  unfold F_Text_clear
  refine zj_aload_n d_Text_clear_0 rfl ?_
  refine zj_iconst 0 d_Text_clear_1 (by decide) ?_
  refine zj_putI fl_Text_15 (fun _ _ _ _ => rfl) ⟨rfl, rfl⟩ d_Text_clear_2 (fun u1 => ?_)
  exact zj_vret rfl rfl rfl rfl d_Text_clear_5
def F_Text_endPart (u0 : zS) (this : Nat) (a1 : Int32) : Option (zS) := if a1 < 0 then (some u0) else (if 3 ≤ a1 then (some u0) else ((zgR u0 7 (some this) 2).bind fun v1 => (zgI u0 7 (some this) 1).bind fun v2 => (zsI u0 v1 a1 v2).bind fun u3 => some u3))
set_option maxHeartbeats 4000000 in
set_option maxRecDepth 100000 in
theorem B_Text_endPart (g : zG) (d : Nat) {u0 : zS} {this : Nat} {a1 : Int32} {o : zS} (h : F_Text_endPart u0 this a1 = some o) : zMt g zy_Text_endPart (d + 1) 0 0 [zr g (some this), .int a1] u0 none o := by
  refine zMt_of2 (ls := [some (zr g (some this)), some (.int a1)]) 0 (by decide +kernel) (by simp [lg_sl, zr_cat, zcI, zcJ]) (by simp [zal, zr_cat, zcI, zcJ, List.replicate]) ?_
  revert h
  show zJ g zy_Text_endPart (d + 1) 0 0 zwV o 0 0 0 [some (zr g (some this)), some (.int a1)] [] u0 (F_Text_endPart u0 this a1)
  unfold F_Text_endPart
  refine zj_iload_n d_Text_endPart_0 rfl ?_
  refine zj_if_lt 19 d_Text_endPart_1 rfl (fun _ => ?_) (fun _ => ?_)
  · exact zj_vret rfl rfl rfl rfl d_Text_endPart_19
  refine zj_iload_n d_Text_endPart_4 rfl ?_
  refine zj_iconst 3 d_Text_endPart_5 (by decide) ?_
  refine zj_icmp_ge 19 d_Text_endPart_6 rfl (fun _ => ?_) (fun _ => ?_)
  · exact zj_vret rfl rfl rfl rfl d_Text_endPart_19
  refine zj_aload_n d_Text_endPart_9 rfl ?_
  refine zj_getR fl_Text_19 (fun _ _ _ _ => rfl) d_Text_endPart_10 (fun v1 => ?_)
  refine zj_iload_n d_Text_endPart_13 rfl ?_
  refine zj_aload_n d_Text_endPart_14 rfl ?_
  refine zj_getI fl_Text_15 (fun _ _ _ _ => rfl) d_Text_endPart_15 (fun v2 => ?_)
  refine zj_iastore d_Text_endPart_18 (fun u3 => ?_)
  exact zj_vret rfl rfl rfl rfl d_Text_endPart_19
def F_Text_joined (u0 : zS) (a1 : Int32) (a2 : Int32) (a3 : Int32) : Option (Int32) := if a1 = 20002 then (if a2 = 0 then (if a3 = 0 then (some 0) else (some 1)) else (some 1)) else if a1 = 20003 then (if a2 = 0 then (some 0) else (if a3 = 0 then (some 0) else (some 1))) else if a1 = 20004 then (if a3 ≤ a2 then (some 0) else (some 1)) else if a1 = 20005 then (if a2 = a3 then (some 1) else (some 0)) else if a1 = 20006 then (some (a2 + a3)) else if a1 = 20007 then (some (a2 - a3)) else (some (a2 * a3))
set_option maxHeartbeats 4000000 in
set_option maxRecDepth 100000 in
theorem B_Text_joined (g : zG) (d : Nat) {u0 : zS} {a1 : Int32} {a2 : Int32} {a3 : Int32} {o : Int32} (h : F_Text_joined u0 a1 a2 a3 = some o) : zMt g zy_Text_joined (d + 1) 0 0 [.int a1, .int a2, .int a3] u0 (some (.int o)) u0 := by
  refine zMt_of2 (ls := [some (.int a1), some (.int a2), some (.int a3)]) 0 (by decide +kernel) (by simp [lg_sl, zr_cat, zcI, zcJ]) (by simp [zal, zr_cat, zcI, zcJ, List.replicate]) ?_
  revert h
  show zJ g zy_Text_joined (d + 1) 0 0 (zwIp u0) o 0 0 0 [some (.int a1), some (.int a2), some (.int a3)] [] u0 (F_Text_joined u0 a1 a2 a3)
  unfold F_Text_joined
  refine zj_iload_n d_Text_joined_0 rfl ?_
  refine zj_tsw 20002 (20002) 40 d_Text_joined_1 (by decide) (by decide) (by decide) rfl rfl (fun _ => ?_) (fun h1 => ?_)
  · refine zj_iload_n d_Text_joined_40 rfl ?_
    refine zj_if_ne 48 d_Text_joined_41 rfl (fun _ => ?_) (fun _ => ?_)
    · refine zj_iconst 1 d_Text_joined_48 (by decide) ?_
      refine zj_goto 53 d_Text_joined_49 rfl ?_
      exact zj_iret rfl rfl rfl rfl d_Text_joined_53
    refine zj_iload_n d_Text_joined_44 rfl ?_
    refine zj_if_eq 52 d_Text_joined_45 rfl (fun _ => ?_) (fun _ => ?_)
    · refine zj_iconst 0 d_Text_joined_52 (by decide) ?_
      exact zj_iret rfl rfl rfl rfl d_Text_joined_53
    refine zj_iconst 1 d_Text_joined_48 (by decide) ?_
    refine zj_goto 53 d_Text_joined_49 rfl ?_
    exact zj_iret rfl rfl rfl rfl d_Text_joined_53
  refine zj_tsw 20003 (20003) 54 d_Text_joined_1 (by decide) (by decide) (by decide) rfl rfl (fun _ => ?_) (fun h2 => ?_)
  · refine zj_iload_n d_Text_joined_54 rfl ?_
    refine zj_if_eq 66 d_Text_joined_55 rfl (fun _ => ?_) (fun _ => ?_)
    · refine zj_iconst 0 d_Text_joined_66 (by decide) ?_
      exact zj_iret rfl rfl rfl rfl d_Text_joined_67
    refine zj_iload_n d_Text_joined_58 rfl ?_
    refine zj_if_eq 66 d_Text_joined_59 rfl (fun _ => ?_) (fun _ => ?_)
    · refine zj_iconst 0 d_Text_joined_66 (by decide) ?_
      exact zj_iret rfl rfl rfl rfl d_Text_joined_67
    refine zj_iconst 1 d_Text_joined_62 (by decide) ?_
    refine zj_goto 67 d_Text_joined_63 rfl ?_
    exact zj_iret rfl rfl rfl rfl d_Text_joined_67
  refine zj_tsw 20004 (20004) 68 d_Text_joined_1 (by decide) (by decide) (by decide) rfl rfl (fun _ => ?_) (fun h3 => ?_)
  · refine zj_iload_n d_Text_joined_68 rfl ?_
    refine zj_iload_n d_Text_joined_69 rfl ?_
    refine zj_icmp_ge 77 d_Text_joined_70 rfl (fun _ => ?_) (fun _ => ?_)
    · refine zj_iconst 0 d_Text_joined_77 (by decide) ?_
      exact zj_iret rfl rfl rfl rfl d_Text_joined_78
    refine zj_iconst 1 d_Text_joined_73 (by decide) ?_
    refine zj_goto 78 d_Text_joined_74 rfl ?_
    exact zj_iret rfl rfl rfl rfl d_Text_joined_78
  refine zj_tsw 20005 (20005) 79 d_Text_joined_1 (by decide) (by decide) (by decide) rfl rfl (fun _ => ?_) (fun h4 => ?_)
  · refine zj_iload_n d_Text_joined_79 rfl ?_
    refine zj_iload_n d_Text_joined_80 rfl ?_
    refine zj_icmp_ne 88 d_Text_joined_81 rfl (fun _ => ?_) (fun _ => ?_)
    · refine zj_iconst 0 d_Text_joined_88 (by decide) ?_
      exact zj_iret rfl rfl rfl rfl d_Text_joined_89
    refine zj_iconst 1 d_Text_joined_84 (by decide) ?_
    refine zj_goto 89 d_Text_joined_85 rfl ?_
    exact zj_iret rfl rfl rfl rfl d_Text_joined_89
  refine zj_tsw 20006 (20006) 90 d_Text_joined_1 (by decide) (by decide) (by decide) rfl rfl (fun _ => ?_) (fun h5 => ?_)
  · refine zj_iload_n d_Text_joined_90 rfl ?_
    refine zj_iload_n d_Text_joined_91 rfl ?_
    refine zj_iadd d_Text_joined_92 ?_
    exact zj_iret rfl rfl rfl rfl d_Text_joined_93
  refine zj_tsw 20007 (20007) 94 d_Text_joined_1 (by decide) (by decide) (by decide) rfl rfl (fun _ => ?_) (fun h6 => ?_)
  · refine zj_iload_n d_Text_joined_94 rfl ?_
    refine zj_iload_n d_Text_joined_95 rfl ?_
    refine zj_isub d_Text_joined_96 ?_
    exact zj_iret rfl rfl rfl rfl d_Text_joined_97
  refine zj_tswD 98 d_Text_joined_1 (by have e0 := lv_neT h1 (show (20002 : Int32).toInt = 20002 by decide); have e1 := lv_neT h2 (show (20003 : Int32).toInt = 20003 by decide); have e2 := lv_neT h3 (show (20004 : Int32).toInt = 20004 by decide); have e3 := lv_neT h4 (show (20005 : Int32).toInt = 20005 by decide); have e4 := lv_neT h5 (show (20006 : Int32).toInt = 20006 by decide); have e5 := lv_neT h6 (show (20007 : Int32).toInt = 20007 by decide); omega) rfl ?_
  refine zj_iload_n d_Text_joined_98 rfl ?_
  refine zj_iload_n d_Text_joined_99 rfl ?_
  refine zj_imul d_Text_joined_100 ?_
  exact zj_iret rfl rfl rfl rfl d_Text_joined_101
def F_Text_pushed (u0 : zS) (a1 : Int32) (a2 : Option Nat) : Option (Int32) := if (a1 - 10000) < 0 then (some a1) else ((zln u0 .int a2).bind fun v1 => if v1 ≤ (a1 - 10000) then (some a1) else ((zaI u0 .int a2 (a1 - 10000)).bind fun v2 => some v2))
set_option maxHeartbeats 4000000 in
set_option maxRecDepth 100000 in
theorem B_Text_pushed (g : zG) (d : Nat) {u0 : zS} {a1 : Int32} {a2 : Option Nat} {o : Int32} (h : F_Text_pushed u0 a1 a2 = some o) : zMt g zy_Text_pushed (d + 1) 0 0 [.int a1, zr g a2] u0 (some (.int o)) u0 := by
  refine zMt_of2 (ls := [some (.int a1), some (zr g a2), none]) 1 (by decide +kernel) (by simp [lg_sl, zr_cat, zcI, zcJ]) (by simp [zal, zr_cat, zcI, zcJ, List.replicate]) ?_
  revert h
  show zJ g zy_Text_pushed (d + 1) 0 0 (zwIp u0) o 0 0 0 [some (.int a1), some (zr g a2), none] [] u0 (F_Text_pushed u0 a1 a2)
  unfold F_Text_pushed
  refine zj_iload_n d_Text_pushed_0 rfl ?_
  refine zj_sipush 10000 d_Text_pushed_1 (by decide) ?_
  refine zj_isub d_Text_pushed_4 ?_
  refine zj_istore_n [some (.int a1), some (zr g a2), some (.int (a1 - 10000))] d_Text_pushed_5 (by decide) (by simp [zNL, zr_cat]) rfl ?_
  refine zj_iload_n d_Text_pushed_6 rfl ?_
  refine zj_if_lt 22 d_Text_pushed_7 rfl (fun _ => ?_) (fun _ => ?_)
  · refine zj_iload_n d_Text_pushed_22 rfl ?_
    exact zj_iret rfl rfl rfl rfl d_Text_pushed_23
  refine zj_iload_n d_Text_pushed_10 rfl ?_
  refine zj_aload_n d_Text_pushed_11 rfl ?_
  refine zj_alen 0 rfl d_Text_pushed_12 (fun v1 => ?_)
  refine zj_icmp_ge 22 d_Text_pushed_13 rfl (fun _ => ?_) (fun _ => ?_)
  · refine zj_iload_n d_Text_pushed_22 rfl ?_
    exact zj_iret rfl rfl rfl rfl d_Text_pushed_23
  refine zj_aload_n d_Text_pushed_16 rfl ?_
  refine zj_iload_n d_Text_pushed_17 rfl ?_
  refine zj_iaload d_Text_pushed_18 (fun v2 => ?_)
  refine zj_goto 23 d_Text_pushed_19 rfl ?_
  exact zj_iret rfl rfl rfl rfl d_Text_pushed_23
def F_M_init (u0 : zS) (this : Nat) : Option (zS) := (znw u0 (.inl (.boolean, 6))).bind <| zk fun a1 u2 => (zpR u2 9 (some this) 2 (some a1)).bind fun u3 => (znw u3 (.inl (.int, 6))).bind <| zk fun a4 u5 => (zpR u5 9 (some this) 3 (some a4)).bind fun u6 => (znw u6 (.inl (.int, 7))).bind <| zk fun a7 u8 => (zpR u8 9 (some this) 5 (some a7)).bind fun u9 => (znw u9 (.inl (.int, 7))).bind <| zk fun a10 u11 => (zpR u11 9 (some this) 6 (some a10)).bind fun u12 => (znw u12 (.inl (.int, 7))).bind <| zk fun a13 u14 => (zpR u14 9 (some this) 7 (some a13)).bind fun u15 => (znw u15 (.inl (.int, 7))).bind <| zk fun a16 u17 => (zpR u17 9 (some this) 8 (some a16)).bind fun u18 => (znw u18 (.inl (.int, 7))).bind <| zk fun a19 u20 => (zpR u20 9 (some this) 9 (some a19)).bind fun u21 => (znw u21 (.inl (.int, 42))).bind <| zk fun a22 u23 => (zpR u23 9 (some this) 11 (some a22)).bind fun u24 => (znw u24 (.inl (.boolean, 42))).bind <| zk fun a25 u26 => (zpR u26 9 (some this) 12 (some a25)).bind fun u27 => (znw u27 (.inl (.boolean, 42))).bind <| zk fun a28 u29 => (zpR u29 9 (some this) 13 (some a28)).bind fun u30 => (znw u30 (.inl (.int, 160))).bind <| zk fun a31 u32 => (zpR u32 9 (some this) 14 (some a31)).bind fun u33 => (znw u33 (.inl (.int, 3570))).bind <| zk fun a34 u35 => (zpR u35 9 (some this) 18 (some a34)).bind fun u36 => (znw u36 (.inl (.int, 21))).bind <| zk fun a37 u38 => (zpR u38 9 (some this) 19 (some a37)).bind fun u39 => (znw u39 (.inl (.int, 21))).bind <| zk fun a40 u41 => (zpR u41 9 (some this) 20 (some a40)).bind fun u42 => (znw u42 (.inl (.char, 60))).bind <| zk fun a43 u44 => (zsC u44 (some a43) 0 111).bind fun u45 => (zsC u45 (some a43) 1 119).bind fun u46 => (zsC u46 (some a43) 2 110).bind fun u47 => (zsC u47 (some a43) 3 32).bind fun u48 => (zsC u48 (some a43) 4 110).bind fun u49 => (zsC u49 (some a43) 5 117).bind fun u50 => (zsC u50 (some a43) 6 109).bind fun u51 => (zsC u51 (some a43) 7 98).bind fun u52 => (zsC u52 (some a43) 8 101).bind fun u53 => (zsC u53 (some a43) 9 114).bind fun u54 => (zsC u54 (some a43) 10 32).bind fun u55 => (zsC u55 (some a43) 11 121).bind fun u56 => (zsC u56 (some a43) 12 101).bind fun u57 => (zsC u57 (some a43) 13 97).bind fun u58 => (zsC u58 (some a43) 14 114).bind fun u59 => (zsC u59 (some a43) 15 115).bind fun u60 => (zsC u60 (some a43) 16 32).bind fun u61 => (zsC u61 (some a43) 17 109).bind fun u62 => (zsC u62 (some a43) 18 117).bind fun u63 => (zsC u63 (some a43) 19 115).bind fun u64 => (zsC u64 (some a43) 20 116).bind fun u65 => (zsC u65 (some a43) 21 32).bind fun u66 => (zsC u66 (some a43) 22 118).bind fun u67 => (zsC u67 (some a43) 23 97).bind fun u68 => (zsC u68 (some a43) 24 108).bind fun u69 => (zsC u69 (some a43) 25 117).bind fun u70 => (zsC u70 (some a43) 26 101).bind fun u71 => (zsC u71 (some a43) 27 32).bind fun u72 => (zsC u72 (some a43) 28 116).bind fun u73 => (zsC u73 (some a43) 29 97).bind fun u74 => (zsC u74 (some a43) 30 117).bind fun u75 => (zsC u75 (some a43) 31 103).bind fun u76 => (zsC u76 (some a43) 32 104).bind fun u77 => (zsC u77 (some a43) 33 116).bind fun u78 => (zsC u78 (some a43) 34 32).bind fun u79 => (zsC u79 (some a43) 35 119).bind fun u80 => (zsC u80 (some a43) 36 101).bind fun u81 => (zsC u81 (some a43) 37 108).bind fun u82 => (zsC u82 (some a43) 38 108).bind fun u83 => (zsC u83 (some a43) 39 32).bind fun u84 => (zsC u84 (some a43) 40 99).bind fun u85 => (zsC u85 (some a43) 41 111).bind fun u86 => (zsC u86 (some a43) 42 115).bind fun u87 => (zsC u87 (some a43) 43 116).bind fun u88 => (zsC u88 (some a43) 44 32).bind fun u89 => (zsC u89 (some a43) 45 112).bind fun u90 => (zsC u90 (some a43) 46 97).bind fun u91 => (zsC u91 (some a43) 47 121).bind fun u92 => (zsC u92 (some a43) 48 32).bind fun u93 => (zsC u93 (some a43) 49 111).bind fun u94 => (zsC u94 (some a43) 50 114).bind fun u95 => (zsC u95 (some a43) 51 32).bind fun u96 => (zsC u96 (some a43) 52 97).bind fun u97 => (zsC u97 (some a43) 53 110).bind fun u98 => (zsC u98 (some a43) 54 100).bind fun u99 => (zsC u99 (some a43) 55 32).bind fun u100 => (zsC u100 (some a43) 56 110).bind fun u101 => (zsC u101 (some a43) 57 111).bind fun u102 => (zsC u102 (some a43) 58 116).bind fun u103 => (zsC u103 (some a43) 59 32).bind fun u104 => (zpR u104 9 (some this) 29 (some a43)).bind fun u105 => (znw u105 (.inl (.int, 170))).bind <| zk fun a106 u107 => (zpR u107 9 (some this) 30 (some a106)).bind fun u108 => (znw u108 (.inl (.int, 6))).bind <| zk fun a109 u110 => (zpR u110 9 (some this) 31 (some a109)).bind fun u111 => (znw u111 (.inl (.int, 7))).bind <| zk fun a112 u113 => (zpR u113 9 (some this) 32 (some a112)).bind fun u114 => (znw u114 (.inl (.int, 42))).bind <| zk fun a115 u116 => (zpR u116 9 (some this) 33 (some a115)).bind fun u117 => (znw u117 (.inl (.int, 6))).bind <| zk fun a118 u119 => (zpR u119 9 (some this) 34 (some a118)).bind fun u120 => (znw u120 (.inl (.int, 6))).bind <| zk fun a121 u122 => (zpR u122 9 (some this) 35 (some a121)).bind fun u123 => (znw u123 (.inl (.int, 42))).bind <| zk fun a124 u125 => (zpR u125 9 (some this) 45 (some a124)).bind fun u126 => (znw u126 (.inl (.boolean, 42))).bind <| zk fun a127 u128 => (zpR u128 9 (some this) 46 (some a127)).bind fun u129 => (znw u129 (.inl (.boolean, 42))).bind <| zk fun a130 u131 => (zpR u131 9 (some this) 47 (some a130)).bind fun u132 => (znw u132 (.inl (.int, 7))).bind <| zk fun a133 u134 => (zpR u134 9 (some this) 48 (some a133)).bind fun u135 => (znw u135 (.inl (.int, 4))).bind <| zk fun a136 u137 => (zpR u137 9 (some this) 49 (some a136)).bind fun u138 => (znw u138 (.inl (.int, 4))).bind <| zk fun a139 u140 => (zpR u140 9 (some this) 50 (some a139)).bind fun u141 => (znw u141 (.inl (.int, 160))).bind <| zk fun a142 u143 => (zpR u143 9 (some this) 51 (some a142)).bind fun u144 => (znw u144 (.inl (.int, 40))).bind <| zk fun a145 u146 => (zpR u146 9 (some this) 52 (some a145)).bind fun u147 => (znw u147 (.inl (.int, 17))).bind <| zk fun a148 u149 => (zsI u149 (some a148) 0 5).bind fun u150 => (zsI u150 (some a148) 1 (-1)).bind fun u151 => (zsI u151 (some a148) 2 5).bind fun u152 => (zsI u152 (some a148) 3 (-142)).bind fun u153 => (zsI u153 (some a148) 4 (-143)).bind fun u154 => (zsI u154 (some a148) 5 (-3)).bind fun u155 => (zsI u155 (some a148) 6 1).bind fun u156 => (zsI u156 (some a148) 7 (-1)).bind fun u157 => (zsI u157 (some a148) 8 (-145)).bind fun u158 => (zsI u158 (some a148) 9 (-142)).bind fun u159 => (zsI u159 (some a148) 10 (-145)).bind fun u160 => (zsI u160 (some a148) 11 3).bind fun u161 => (zsI u161 (some a148) 12 (-5)).bind fun u162 => (zsI u162 (some a148) 13 (-143)).bind fun u163 => (zsI u163 (some a148) 14 (-2)).bind fun u164 => (zsI u164 (some a148) 15 (-145)).bind fun u165 => (zsI u165 (some a148) 16 10).bind fun u166 => zfix2 (fun (r167 : zS → Int32 → Option (zS)) (u168 : zS) (x169 : Int32) => (zln u168 .int (some a148)).bind fun v170 => if v170 ≤ x169 then ((zgR u168 9 (some this) 19).bind fun v171 => (zsI u168 v171 0 0).bind fun u172 => (zgR u172 9 (some this) 20).bind fun v173 => (zsI u172 v173 0 11).bind fun u174 => (zgR u174 9 (some this) 19).bind fun v175 => (zsI u174 v175 1 11).bind fun u176 => (zgR u176 9 (some this) 20).bind fun v177 => (zsI u176 v177 1 16).bind fun u178 => (zgR u178 9 (some this) 19).bind fun v179 => (zsI u178 v179 2 16).bind fun u180 => (zgR u180 9 (some this) 20).bind fun v181 => (zsI u180 v181 2 17).bind fun u182 => (zpI u182 9 (some this) 16 1).bind fun u183 => zfix2 (fun (r184 : zS → Int32 → Option (zS)) (u185 : zS) (x186 : Int32) => if 4 ≤ x186 then (some u185) else ((zgR u185 9 (some this) 49).bind fun v187 => (zsI u185 v187 x186 (-1)).bind fun u188 => r184 u188 (x186 + 1))) zFU u183 0) else ((zgR u168 9 (some this) 18).bind fun v189 => (zaI u168 .int (some a148) x169).bind fun v190 => (zsI u168 v189 x169 v190).bind fun u191 => r167 u191 (x169 + 1))) zFU u166 0
set_option maxHeartbeats 4000000 in
set_option maxRecDepth 100000 in
theorem B_M_init (g : zG) (d : Nat) {u0 : zS} {this : Nat} {o : zS} (h : F_M_init u0 this = some o) : zMt g zy_M_init (d + 1) 30 4600 [zr g (some this)] u0 none o := by
  refine zMt_of2 (ls := [some (zr g (some this)), none, none]) 2 (by decide +kernel) (by simp [lg_sl, zr_cat, zcI, zcJ]) (by simp [zal, zr_cat, zcI, zcJ, List.replicate]) ?_
  revert h
  show zJ g zy_M_init (d + 1) 30 4600 zwV o 0 0 0 [some (zr g (some this)), none, none] [] u0 (F_M_init u0 this)
  unfold F_M_init
  refine zj_aload_n d_M_init_0 rfl ?_
  refine zj_objInit ⟨_, rfl⟩ oi_M_7 oi_i oi_c (by omega) (by decide) d_M_init_1 ?_
  refine zj_aload_n d_M_init_4 rfl ?_
  refine zj_bipush 6 d_M_init_5 (by decide) ?_
  refine zj_newa (N := 6) 1 rfl rfl (by simp) ac_Z (by decide) (by decide) (by decide) (by decide) d_M_init_7 (fun a1 u2 => ?_)
  refine zj_putFR fl_M_13 ⟨rfl, rfl⟩ (fun _ _ _ _ => rfl) (znfA _) d_M_init_9 (fun u3 => ?_)
  refine zj_aload_n d_M_init_12 rfl ?_
  refine zj_bipush 6 d_M_init_13 (by decide) ?_
  refine zj_newa (N := 6) 0 rfl rfl (by simp) ac_I (by decide) (by decide) (by decide) (by decide) d_M_init_15 (fun a4 u5 => ?_)
  refine zj_putFR fl_M_17 ⟨rfl, rfl⟩ (fun _ _ _ _ => rfl) (znfA _) d_M_init_17 (fun u6 => ?_)
  refine zj_aload_n d_M_init_20 rfl ?_
  refine zj_bipush 7 d_M_init_21 (by decide) ?_
  refine zj_newa (N := 7) 0 rfl rfl (by simp) ac_I (by decide) (by decide) (by decide) (by decide) d_M_init_23 (fun a7 u8 => ?_)
  refine zj_putFR fl_M_21 ⟨rfl, rfl⟩ (fun _ _ _ _ => rfl) (znfA _) d_M_init_25 (fun u9 => ?_)
  refine zj_aload_n d_M_init_28 rfl ?_
  refine zj_bipush 7 d_M_init_29 (by decide) ?_
  refine zj_newa (N := 7) 0 rfl rfl (by simp) ac_I (by decide) (by decide) (by decide) (by decide) d_M_init_31 (fun a10 u11 => ?_)
  refine zj_putFR fl_M_24 ⟨rfl, rfl⟩ (fun _ _ _ _ => rfl) (znfA _) d_M_init_33 (fun u12 => ?_)
  refine zj_aload_n d_M_init_36 rfl ?_
  refine zj_bipush 7 d_M_init_37 (by decide) ?_
  refine zj_newa (N := 7) 0 rfl rfl (by simp) ac_I (by decide) (by decide) (by decide) (by decide) d_M_init_39 (fun a13 u14 => ?_)
  refine zj_putFR fl_M_27 ⟨rfl, rfl⟩ (fun _ _ _ _ => rfl) (znfA _) d_M_init_41 (fun u15 => ?_)
  refine zj_aload_n d_M_init_44 rfl ?_
  refine zj_bipush 7 d_M_init_45 (by decide) ?_
  refine zj_newa (N := 7) 0 rfl rfl (by simp) ac_I (by decide) (by decide) (by decide) (by decide) d_M_init_47 (fun a16 u17 => ?_)
  refine zj_putFR fl_M_30 ⟨rfl, rfl⟩ (fun _ _ _ _ => rfl) (znfA _) d_M_init_49 (fun u18 => ?_)
  refine zj_aload_n d_M_init_52 rfl ?_
  refine zj_bipush 7 d_M_init_53 (by decide) ?_
  refine zj_newa (N := 7) 0 rfl rfl (by simp) ac_I (by decide) (by decide) (by decide) (by decide) d_M_init_55 (fun a19 u20 => ?_)
  refine zj_putFR fl_M_33 ⟨rfl, rfl⟩ (fun _ _ _ _ => rfl) (znfA _) d_M_init_57 (fun u21 => ?_)
  refine zj_aload_n d_M_init_60 rfl ?_
  refine zj_bipush 42 d_M_init_61 (by decide) ?_
  refine zj_newa (N := 42) 0 rfl rfl (by simp) ac_I (by decide) (by decide) (by decide) (by decide) d_M_init_63 (fun a22 u23 => ?_)
  refine zj_putFR fl_M_36 ⟨rfl, rfl⟩ (fun _ _ _ _ => rfl) (znfA _) d_M_init_65 (fun u24 => ?_)
  refine zj_aload_n d_M_init_68 rfl ?_
  refine zj_bipush 42 d_M_init_69 (by decide) ?_
  refine zj_newa (N := 42) 1 rfl rfl (by simp) ac_Z (by decide) (by decide) (by decide) (by decide) d_M_init_71 (fun a25 u26 => ?_)
  refine zj_putFR fl_M_39 ⟨rfl, rfl⟩ (fun _ _ _ _ => rfl) (znfA _) d_M_init_73 (fun u27 => ?_)
  refine zj_aload_n d_M_init_76 rfl ?_
  refine zj_bipush 42 d_M_init_77 (by decide) ?_
  refine zj_newa (N := 42) 1 rfl rfl (by simp) ac_Z (by decide) (by decide) (by decide) (by decide) d_M_init_79 (fun a28 u29 => ?_)
  refine zj_putFR fl_M_42 ⟨rfl, rfl⟩ (fun _ _ _ _ => rfl) (znfA _) d_M_init_81 (fun u30 => ?_)
  refine zj_aload_n d_M_init_84 rfl ?_
  refine zj_sipush 160 d_M_init_85 (by decide) ?_
  refine zj_newa (N := 160) 0 rfl rfl (by simp) ac_I (by decide) (by decide) (by decide) (by decide) d_M_init_88 (fun a31 u32 => ?_)
  refine zj_putFR fl_M_45 ⟨rfl, rfl⟩ (fun _ _ _ _ => rfl) (znfA _) d_M_init_90 (fun u33 => ?_)
  refine zj_aload_n d_M_init_93 rfl ?_
  refine zj_sipush 3570 d_M_init_94 (by decide) ?_
  refine zj_newa (N := 3570) 0 rfl rfl (by simp) ac_I (by decide) (by decide) (by decide) (by decide) d_M_init_97 (fun a34 u35 => ?_)
  refine zj_putFR fl_M_48 ⟨rfl, rfl⟩ (fun _ _ _ _ => rfl) (znfA _) d_M_init_99 (fun u36 => ?_)
  refine zj_aload_n d_M_init_102 rfl ?_
  refine zj_bipush 21 d_M_init_103 (by decide) ?_
  refine zj_newa (N := 21) 0 rfl rfl (by simp) ac_I (by decide) (by decide) (by decide) (by decide) d_M_init_105 (fun a37 u38 => ?_)
  refine zj_putFR fl_M_51 ⟨rfl, rfl⟩ (fun _ _ _ _ => rfl) (znfA _) d_M_init_107 (fun u39 => ?_)
  refine zj_aload_n d_M_init_110 rfl ?_
  refine zj_bipush 21 d_M_init_111 (by decide) ?_
  refine zj_newa (N := 21) 0 rfl rfl (by simp) ac_I (by decide) (by decide) (by decide) (by decide) d_M_init_113 (fun a40 u41 => ?_)
  refine zj_putFR fl_M_54 ⟨rfl, rfl⟩ (fun _ _ _ _ => rfl) (znfA _) d_M_init_115 (fun u42 => ?_)
  refine zj_aload_n d_M_init_118 rfl ?_
  refine zj_bipush 60 d_M_init_119 (by decide) ?_
  refine zj_newa (N := 60) 2 rfl rfl (by simp) ac_C (by decide) (by decide) (by decide) (by decide) d_M_init_121 (fun a43 u44 => ?_)
  refine zj_dup d_M_init_123 (zr_cat _ _) ?_
  refine zj_iconst 0 d_M_init_124 (by decide) ?_
  refine zj_bipush 111 d_M_init_125 (by decide) ?_
  refine zj_castore d_M_init_127 (fun u45 => ?_)
  refine zj_dup d_M_init_128 (zr_cat _ _) ?_
  refine zj_iconst 1 d_M_init_129 (by decide) ?_
  refine zj_bipush 119 d_M_init_130 (by decide) ?_
  refine zj_castore d_M_init_132 (fun u46 => ?_)
  refine zj_dup d_M_init_133 (zr_cat _ _) ?_
  refine zj_iconst 2 d_M_init_134 (by decide) ?_
  refine zj_bipush 110 d_M_init_135 (by decide) ?_
  refine zj_castore d_M_init_137 (fun u47 => ?_)
  refine zj_dup d_M_init_138 (zr_cat _ _) ?_
  refine zj_iconst 3 d_M_init_139 (by decide) ?_
  refine zj_bipush 32 d_M_init_140 (by decide) ?_
  refine zj_castore d_M_init_142 (fun u48 => ?_)
  refine zj_dup d_M_init_143 (zr_cat _ _) ?_
  refine zj_iconst 4 d_M_init_144 (by decide) ?_
  refine zj_bipush 110 d_M_init_145 (by decide) ?_
  refine zj_castore d_M_init_147 (fun u49 => ?_)
  refine zj_dup d_M_init_148 (zr_cat _ _) ?_
  refine zj_iconst 5 d_M_init_149 (by decide) ?_
  refine zj_bipush 117 d_M_init_150 (by decide) ?_
  refine zj_castore d_M_init_152 (fun u50 => ?_)
  refine zj_dup d_M_init_153 (zr_cat _ _) ?_
  refine zj_bipush 6 d_M_init_154 (by decide) ?_
  refine zj_bipush 109 d_M_init_156 (by decide) ?_
  refine zj_castore d_M_init_158 (fun u51 => ?_)
  refine zj_dup d_M_init_159 (zr_cat _ _) ?_
  refine zj_bipush 7 d_M_init_160 (by decide) ?_
  refine zj_bipush 98 d_M_init_162 (by decide) ?_
  refine zj_castore d_M_init_164 (fun u52 => ?_)
  refine zj_dup d_M_init_165 (zr_cat _ _) ?_
  refine zj_bipush 8 d_M_init_166 (by decide) ?_
  refine zj_bipush 101 d_M_init_168 (by decide) ?_
  refine zj_castore d_M_init_170 (fun u53 => ?_)
  refine zj_dup d_M_init_171 (zr_cat _ _) ?_
  refine zj_bipush 9 d_M_init_172 (by decide) ?_
  refine zj_bipush 114 d_M_init_174 (by decide) ?_
  refine zj_castore d_M_init_176 (fun u54 => ?_)
  refine zj_dup d_M_init_177 (zr_cat _ _) ?_
  refine zj_bipush 10 d_M_init_178 (by decide) ?_
  refine zj_bipush 32 d_M_init_180 (by decide) ?_
  refine zj_castore d_M_init_182 (fun u55 => ?_)
  refine zj_dup d_M_init_183 (zr_cat _ _) ?_
  refine zj_bipush 11 d_M_init_184 (by decide) ?_
  refine zj_bipush 121 d_M_init_186 (by decide) ?_
  refine zj_castore d_M_init_188 (fun u56 => ?_)
  refine zj_dup d_M_init_189 (zr_cat _ _) ?_
  refine zj_bipush 12 d_M_init_190 (by decide) ?_
  refine zj_bipush 101 d_M_init_192 (by decide) ?_
  refine zj_castore d_M_init_194 (fun u57 => ?_)
  refine zj_dup d_M_init_195 (zr_cat _ _) ?_
  refine zj_bipush 13 d_M_init_196 (by decide) ?_
  refine zj_bipush 97 d_M_init_198 (by decide) ?_
  refine zj_castore d_M_init_200 (fun u58 => ?_)
  refine zj_dup d_M_init_201 (zr_cat _ _) ?_
  refine zj_bipush 14 d_M_init_202 (by decide) ?_
  refine zj_bipush 114 d_M_init_204 (by decide) ?_
  refine zj_castore d_M_init_206 (fun u59 => ?_)
  refine zj_dup d_M_init_207 (zr_cat _ _) ?_
  refine zj_bipush 15 d_M_init_208 (by decide) ?_
  refine zj_bipush 115 d_M_init_210 (by decide) ?_
  refine zj_castore d_M_init_212 (fun u60 => ?_)
  refine zj_dup d_M_init_213 (zr_cat _ _) ?_
  refine zj_bipush 16 d_M_init_214 (by decide) ?_
  refine zj_bipush 32 d_M_init_216 (by decide) ?_
  refine zj_castore d_M_init_218 (fun u61 => ?_)
  refine zj_dup d_M_init_219 (zr_cat _ _) ?_
  refine zj_bipush 17 d_M_init_220 (by decide) ?_
  refine zj_bipush 109 d_M_init_222 (by decide) ?_
  refine zj_castore d_M_init_224 (fun u62 => ?_)
  refine zj_dup d_M_init_225 (zr_cat _ _) ?_
  refine zj_bipush 18 d_M_init_226 (by decide) ?_
  refine zj_bipush 117 d_M_init_228 (by decide) ?_
  refine zj_castore d_M_init_230 (fun u63 => ?_)
  refine zj_dup d_M_init_231 (zr_cat _ _) ?_
  refine zj_bipush 19 d_M_init_232 (by decide) ?_
  refine zj_bipush 115 d_M_init_234 (by decide) ?_
  refine zj_castore d_M_init_236 (fun u64 => ?_)
  refine zj_dup d_M_init_237 (zr_cat _ _) ?_
  refine zj_bipush 20 d_M_init_238 (by decide) ?_
  refine zj_bipush 116 d_M_init_240 (by decide) ?_
  refine zj_castore d_M_init_242 (fun u65 => ?_)
  refine zj_dup d_M_init_243 (zr_cat _ _) ?_
  refine zj_bipush 21 d_M_init_244 (by decide) ?_
  refine zj_bipush 32 d_M_init_246 (by decide) ?_
  refine zj_castore d_M_init_248 (fun u66 => ?_)
  refine zj_dup d_M_init_249 (zr_cat _ _) ?_
  refine zj_bipush 22 d_M_init_250 (by decide) ?_
  refine zj_bipush 118 d_M_init_252 (by decide) ?_
  refine zj_castore d_M_init_254 (fun u67 => ?_)
  refine zj_dup d_M_init_255 (zr_cat _ _) ?_
  refine zj_bipush 23 d_M_init_256 (by decide) ?_
  refine zj_bipush 97 d_M_init_258 (by decide) ?_
  refine zj_castore d_M_init_260 (fun u68 => ?_)
  refine zj_dup d_M_init_261 (zr_cat _ _) ?_
  refine zj_bipush 24 d_M_init_262 (by decide) ?_
  refine zj_bipush 108 d_M_init_264 (by decide) ?_
  refine zj_castore d_M_init_266 (fun u69 => ?_)
  refine zj_dup d_M_init_267 (zr_cat _ _) ?_
  refine zj_bipush 25 d_M_init_268 (by decide) ?_
  refine zj_bipush 117 d_M_init_270 (by decide) ?_
  refine zj_castore d_M_init_272 (fun u70 => ?_)
  refine zj_dup d_M_init_273 (zr_cat _ _) ?_
  refine zj_bipush 26 d_M_init_274 (by decide) ?_
  refine zj_bipush 101 d_M_init_276 (by decide) ?_
  refine zj_castore d_M_init_278 (fun u71 => ?_)
  refine zj_dup d_M_init_279 (zr_cat _ _) ?_
  refine zj_bipush 27 d_M_init_280 (by decide) ?_
  refine zj_bipush 32 d_M_init_282 (by decide) ?_
  refine zj_castore d_M_init_284 (fun u72 => ?_)
  refine zj_dup d_M_init_285 (zr_cat _ _) ?_
  refine zj_bipush 28 d_M_init_286 (by decide) ?_
  refine zj_bipush 116 d_M_init_288 (by decide) ?_
  refine zj_castore d_M_init_290 (fun u73 => ?_)
  refine zj_dup d_M_init_291 (zr_cat _ _) ?_
  refine zj_bipush 29 d_M_init_292 (by decide) ?_
  refine zj_bipush 97 d_M_init_294 (by decide) ?_
  refine zj_castore d_M_init_296 (fun u74 => ?_)
  refine zj_dup d_M_init_297 (zr_cat _ _) ?_
  refine zj_bipush 30 d_M_init_298 (by decide) ?_
  refine zj_bipush 117 d_M_init_300 (by decide) ?_
  refine zj_castore d_M_init_302 (fun u75 => ?_)
  refine zj_dup d_M_init_303 (zr_cat _ _) ?_
  refine zj_bipush 31 d_M_init_304 (by decide) ?_
  refine zj_bipush 103 d_M_init_306 (by decide) ?_
  refine zj_castore d_M_init_308 (fun u76 => ?_)
  refine zj_dup d_M_init_309 (zr_cat _ _) ?_
  refine zj_bipush 32 d_M_init_310 (by decide) ?_
  refine zj_bipush 104 d_M_init_312 (by decide) ?_
  refine zj_castore d_M_init_314 (fun u77 => ?_)
  refine zj_dup d_M_init_315 (zr_cat _ _) ?_
  refine zj_bipush 33 d_M_init_316 (by decide) ?_
  refine zj_bipush 116 d_M_init_318 (by decide) ?_
  refine zj_castore d_M_init_320 (fun u78 => ?_)
  refine zj_dup d_M_init_321 (zr_cat _ _) ?_
  refine zj_bipush 34 d_M_init_322 (by decide) ?_
  refine zj_bipush 32 d_M_init_324 (by decide) ?_
  refine zj_castore d_M_init_326 (fun u79 => ?_)
  refine zj_dup d_M_init_327 (zr_cat _ _) ?_
  refine zj_bipush 35 d_M_init_328 (by decide) ?_
  refine zj_bipush 119 d_M_init_330 (by decide) ?_
  refine zj_castore d_M_init_332 (fun u80 => ?_)
  refine zj_dup d_M_init_333 (zr_cat _ _) ?_
  refine zj_bipush 36 d_M_init_334 (by decide) ?_
  refine zj_bipush 101 d_M_init_336 (by decide) ?_
  refine zj_castore d_M_init_338 (fun u81 => ?_)
  refine zj_dup d_M_init_339 (zr_cat _ _) ?_
  refine zj_bipush 37 d_M_init_340 (by decide) ?_
  refine zj_bipush 108 d_M_init_342 (by decide) ?_
  refine zj_castore d_M_init_344 (fun u82 => ?_)
  refine zj_dup d_M_init_345 (zr_cat _ _) ?_
  refine zj_bipush 38 d_M_init_346 (by decide) ?_
  refine zj_bipush 108 d_M_init_348 (by decide) ?_
  refine zj_castore d_M_init_350 (fun u83 => ?_)
  refine zj_dup d_M_init_351 (zr_cat _ _) ?_
  refine zj_bipush 39 d_M_init_352 (by decide) ?_
  refine zj_bipush 32 d_M_init_354 (by decide) ?_
  refine zj_castore d_M_init_356 (fun u84 => ?_)
  refine zj_dup d_M_init_357 (zr_cat _ _) ?_
  refine zj_bipush 40 d_M_init_358 (by decide) ?_
  refine zj_bipush 99 d_M_init_360 (by decide) ?_
  refine zj_castore d_M_init_362 (fun u85 => ?_)
  refine zj_dup d_M_init_363 (zr_cat _ _) ?_
  refine zj_bipush 41 d_M_init_364 (by decide) ?_
  refine zj_bipush 111 d_M_init_366 (by decide) ?_
  refine zj_castore d_M_init_368 (fun u86 => ?_)
  refine zj_dup d_M_init_369 (zr_cat _ _) ?_
  refine zj_bipush 42 d_M_init_370 (by decide) ?_
  refine zj_bipush 115 d_M_init_372 (by decide) ?_
  refine zj_castore d_M_init_374 (fun u87 => ?_)
  refine zj_dup d_M_init_375 (zr_cat _ _) ?_
  refine zj_bipush 43 d_M_init_376 (by decide) ?_
  refine zj_bipush 116 d_M_init_378 (by decide) ?_
  refine zj_castore d_M_init_380 (fun u88 => ?_)
  refine zj_dup d_M_init_381 (zr_cat _ _) ?_
  refine zj_bipush 44 d_M_init_382 (by decide) ?_
  refine zj_bipush 32 d_M_init_384 (by decide) ?_
  refine zj_castore d_M_init_386 (fun u89 => ?_)
  refine zj_dup d_M_init_387 (zr_cat _ _) ?_
  refine zj_bipush 45 d_M_init_388 (by decide) ?_
  refine zj_bipush 112 d_M_init_390 (by decide) ?_
  refine zj_castore d_M_init_392 (fun u90 => ?_)
  refine zj_dup d_M_init_393 (zr_cat _ _) ?_
  refine zj_bipush 46 d_M_init_394 (by decide) ?_
  refine zj_bipush 97 d_M_init_396 (by decide) ?_
  refine zj_castore d_M_init_398 (fun u91 => ?_)
  refine zj_dup d_M_init_399 (zr_cat _ _) ?_
  refine zj_bipush 47 d_M_init_400 (by decide) ?_
  refine zj_bipush 121 d_M_init_402 (by decide) ?_
  refine zj_castore d_M_init_404 (fun u92 => ?_)
  refine zj_dup d_M_init_405 (zr_cat _ _) ?_
  refine zj_bipush 48 d_M_init_406 (by decide) ?_
  refine zj_bipush 32 d_M_init_408 (by decide) ?_
  refine zj_castore d_M_init_410 (fun u93 => ?_)
  refine zj_dup d_M_init_411 (zr_cat _ _) ?_
  refine zj_bipush 49 d_M_init_412 (by decide) ?_
  refine zj_bipush 111 d_M_init_414 (by decide) ?_
  refine zj_castore d_M_init_416 (fun u94 => ?_)
  refine zj_dup d_M_init_417 (zr_cat _ _) ?_
  refine zj_bipush 50 d_M_init_418 (by decide) ?_
  refine zj_bipush 114 d_M_init_420 (by decide) ?_
  refine zj_castore d_M_init_422 (fun u95 => ?_)
  refine zj_dup d_M_init_423 (zr_cat _ _) ?_
  refine zj_bipush 51 d_M_init_424 (by decide) ?_
  refine zj_bipush 32 d_M_init_426 (by decide) ?_
  refine zj_castore d_M_init_428 (fun u96 => ?_)
  refine zj_dup d_M_init_429 (zr_cat _ _) ?_
  refine zj_bipush 52 d_M_init_430 (by decide) ?_
  refine zj_bipush 97 d_M_init_432 (by decide) ?_
  refine zj_castore d_M_init_434 (fun u97 => ?_)
  refine zj_dup d_M_init_435 (zr_cat _ _) ?_
  refine zj_bipush 53 d_M_init_436 (by decide) ?_
  refine zj_bipush 110 d_M_init_438 (by decide) ?_
  refine zj_castore d_M_init_440 (fun u98 => ?_)
  refine zj_dup d_M_init_441 (zr_cat _ _) ?_
  refine zj_bipush 54 d_M_init_442 (by decide) ?_
  refine zj_bipush 100 d_M_init_444 (by decide) ?_
  refine zj_castore d_M_init_446 (fun u99 => ?_)
  refine zj_dup d_M_init_447 (zr_cat _ _) ?_
  refine zj_bipush 55 d_M_init_448 (by decide) ?_
  refine zj_bipush 32 d_M_init_450 (by decide) ?_
  refine zj_castore d_M_init_452 (fun u100 => ?_)
  refine zj_dup d_M_init_453 (zr_cat _ _) ?_
  refine zj_bipush 56 d_M_init_454 (by decide) ?_
  refine zj_bipush 110 d_M_init_456 (by decide) ?_
  refine zj_castore d_M_init_458 (fun u101 => ?_)
  refine zj_dup d_M_init_459 (zr_cat _ _) ?_
  refine zj_bipush 57 d_M_init_460 (by decide) ?_
  refine zj_bipush 111 d_M_init_462 (by decide) ?_
  refine zj_castore d_M_init_464 (fun u102 => ?_)
  refine zj_dup d_M_init_465 (zr_cat _ _) ?_
  refine zj_bipush 58 d_M_init_466 (by decide) ?_
  refine zj_bipush 116 d_M_init_468 (by decide) ?_
  refine zj_castore d_M_init_470 (fun u103 => ?_)
  refine zj_dup d_M_init_471 (zr_cat _ _) ?_
  refine zj_bipush 59 d_M_init_472 (by decide) ?_
  refine zj_bipush 32 d_M_init_474 (by decide) ?_
  refine zj_castore d_M_init_476 (fun u104 => ?_)
  refine zj_putFR fl_M_57 ⟨rfl, rfl⟩ (fun _ _ _ _ => rfl) (znfA _) d_M_init_477 (fun u105 => ?_)
  refine zj_aload_n d_M_init_480 rfl ?_
  refine zj_sipush 170 d_M_init_481 (by decide) ?_
  refine zj_newa (N := 170) 0 rfl rfl (by simp) ac_I (by decide) (by decide) (by decide) (by decide) d_M_init_484 (fun a106 u107 => ?_)
  refine zj_putFR fl_M_61 ⟨rfl, rfl⟩ (fun _ _ _ _ => rfl) (znfA _) d_M_init_486 (fun u108 => ?_)
  refine zj_aload_n d_M_init_489 rfl ?_
  refine zj_bipush 6 d_M_init_490 (by decide) ?_
  refine zj_newa (N := 6) 0 rfl rfl (by simp) ac_I (by decide) (by decide) (by decide) (by decide) d_M_init_492 (fun a109 u110 => ?_)
  refine zj_putFR fl_M_64 ⟨rfl, rfl⟩ (fun _ _ _ _ => rfl) (znfA _) d_M_init_494 (fun u111 => ?_)
  refine zj_aload_n d_M_init_497 rfl ?_
  refine zj_bipush 7 d_M_init_498 (by decide) ?_
  refine zj_newa (N := 7) 0 rfl rfl (by simp) ac_I (by decide) (by decide) (by decide) (by decide) d_M_init_500 (fun a112 u113 => ?_)
  refine zj_putFR fl_M_67 ⟨rfl, rfl⟩ (fun _ _ _ _ => rfl) (znfA _) d_M_init_502 (fun u114 => ?_)
  refine zj_aload_n d_M_init_505 rfl ?_
  refine zj_bipush 42 d_M_init_506 (by decide) ?_
  refine zj_newa (N := 42) 0 rfl rfl (by simp) ac_I (by decide) (by decide) (by decide) (by decide) d_M_init_508 (fun a115 u116 => ?_)
  refine zj_putFR fl_M_70 ⟨rfl, rfl⟩ (fun _ _ _ _ => rfl) (znfA _) d_M_init_510 (fun u117 => ?_)
  refine zj_aload_n d_M_init_513 rfl ?_
  refine zj_bipush 6 d_M_init_514 (by decide) ?_
  refine zj_newa (N := 6) 0 rfl rfl (by simp) ac_I (by decide) (by decide) (by decide) (by decide) d_M_init_516 (fun a118 u119 => ?_)
  refine zj_putFR fl_M_73 ⟨rfl, rfl⟩ (fun _ _ _ _ => rfl) (znfA _) d_M_init_518 (fun u120 => ?_)
  refine zj_aload_n d_M_init_521 rfl ?_
  refine zj_bipush 6 d_M_init_522 (by decide) ?_
  refine zj_newa (N := 6) 0 rfl rfl (by simp) ac_I (by decide) (by decide) (by decide) (by decide) d_M_init_524 (fun a121 u122 => ?_)
  refine zj_putFR fl_M_76 ⟨rfl, rfl⟩ (fun _ _ _ _ => rfl) (znfA _) d_M_init_526 (fun u123 => ?_)
  refine zj_aload_n d_M_init_529 rfl ?_
  refine zj_bipush 42 d_M_init_530 (by decide) ?_
  refine zj_newa (N := 42) 0 rfl rfl (by simp) ac_I (by decide) (by decide) (by decide) (by decide) d_M_init_532 (fun a124 u125 => ?_)
  refine zj_putFR fl_M_79 ⟨rfl, rfl⟩ (fun _ _ _ _ => rfl) (znfA _) d_M_init_534 (fun u126 => ?_)
  refine zj_aload_n d_M_init_537 rfl ?_
  refine zj_bipush 42 d_M_init_538 (by decide) ?_
  refine zj_newa (N := 42) 1 rfl rfl (by simp) ac_Z (by decide) (by decide) (by decide) (by decide) d_M_init_540 (fun a127 u128 => ?_)
  refine zj_putFR fl_M_82 ⟨rfl, rfl⟩ (fun _ _ _ _ => rfl) (znfA _) d_M_init_542 (fun u129 => ?_)
  refine zj_aload_n d_M_init_545 rfl ?_
  refine zj_bipush 42 d_M_init_546 (by decide) ?_
  refine zj_newa (N := 42) 1 rfl rfl (by simp) ac_Z (by decide) (by decide) (by decide) (by decide) d_M_init_548 (fun a130 u131 => ?_)
  refine zj_putFR fl_M_85 ⟨rfl, rfl⟩ (fun _ _ _ _ => rfl) (znfA _) d_M_init_550 (fun u132 => ?_)
  refine zj_aload_n d_M_init_553 rfl ?_
  refine zj_bipush 7 d_M_init_554 (by decide) ?_
  refine zj_newa (N := 7) 0 rfl rfl (by simp) ac_I (by decide) (by decide) (by decide) (by decide) d_M_init_556 (fun a133 u134 => ?_)
  refine zj_putFR fl_M_88 ⟨rfl, rfl⟩ (fun _ _ _ _ => rfl) (znfA _) d_M_init_558 (fun u135 => ?_)
  refine zj_aload_n d_M_init_561 rfl ?_
  refine zj_iconst 4 d_M_init_562 (by decide) ?_
  refine zj_newa (N := 4) 0 rfl rfl (by simp) ac_I (by decide) (by decide) (by decide) (by decide) d_M_init_563 (fun a136 u137 => ?_)
  refine zj_putFR fl_M_91 ⟨rfl, rfl⟩ (fun _ _ _ _ => rfl) (znfA _) d_M_init_565 (fun u138 => ?_)
  refine zj_aload_n d_M_init_568 rfl ?_
  refine zj_iconst 4 d_M_init_569 (by decide) ?_
  refine zj_newa (N := 4) 0 rfl rfl (by simp) ac_I (by decide) (by decide) (by decide) (by decide) d_M_init_570 (fun a139 u140 => ?_)
  refine zj_putFR fl_M_94 ⟨rfl, rfl⟩ (fun _ _ _ _ => rfl) (znfA _) d_M_init_572 (fun u141 => ?_)
  refine zj_aload_n d_M_init_575 rfl ?_
  refine zj_sipush 160 d_M_init_576 (by decide) ?_
  refine zj_newa (N := 160) 0 rfl rfl (by simp) ac_I (by decide) (by decide) (by decide) (by decide) d_M_init_579 (fun a142 u143 => ?_)
  refine zj_putFR fl_M_97 ⟨rfl, rfl⟩ (fun _ _ _ _ => rfl) (znfA _) d_M_init_581 (fun u144 => ?_)
  refine zj_aload_n d_M_init_584 rfl ?_
  refine zj_bipush 40 d_M_init_585 (by decide) ?_
  refine zj_newa (N := 40) 0 rfl rfl (by simp) ac_I (by decide) (by decide) (by decide) (by decide) d_M_init_587 (fun a145 u146 => ?_)
  refine zj_putFR fl_M_100 ⟨rfl, rfl⟩ (fun _ _ _ _ => rfl) (znfA _) d_M_init_589 (fun u147 => ?_)
  refine zj_bipush 17 d_M_init_592 (by decide) ?_
  refine zj_newa (N := 17) 0 rfl rfl (by simp) ac_I (by decide) (by decide) (by decide) (by decide) d_M_init_594 (fun a148 u149 => ?_)
  refine zj_dup d_M_init_596 (zr_cat _ _) ?_
  refine zj_iconst 0 d_M_init_597 (by decide) ?_
  refine zj_iconst 5 d_M_init_598 (by decide) ?_
  refine zj_iastore d_M_init_599 (fun u150 => ?_)
  refine zj_dup d_M_init_600 (zr_cat _ _) ?_
  refine zj_iconst 1 d_M_init_601 (by decide) ?_
  refine zj_iconst (-1) d_M_init_602 (by decide) ?_
  refine zj_iastore d_M_init_603 (fun u151 => ?_)
  refine zj_dup d_M_init_604 (zr_cat _ _) ?_
  refine zj_iconst 2 d_M_init_605 (by decide) ?_
  refine zj_iconst 5 d_M_init_606 (by decide) ?_
  refine zj_iastore d_M_init_607 (fun u152 => ?_)
  refine zj_dup d_M_init_608 (zr_cat _ _) ?_
  refine zj_iconst 3 d_M_init_609 (by decide) ?_
  refine zj_sipush (-142) d_M_init_610 (by decide) ?_
  refine zj_iastore d_M_init_613 (fun u153 => ?_)
  refine zj_dup d_M_init_614 (zr_cat _ _) ?_
  refine zj_iconst 4 d_M_init_615 (by decide) ?_
  refine zj_sipush (-143) d_M_init_616 (by decide) ?_
  refine zj_iastore d_M_init_619 (fun u154 => ?_)
  refine zj_dup d_M_init_620 (zr_cat _ _) ?_
  refine zj_iconst 5 d_M_init_621 (by decide) ?_
  refine zj_bipush (-3) d_M_init_622 (by decide) ?_
  refine zj_iastore d_M_init_624 (fun u155 => ?_)
  refine zj_dup d_M_init_625 (zr_cat _ _) ?_
  refine zj_bipush 6 d_M_init_626 (by decide) ?_
  refine zj_iconst 1 d_M_init_628 (by decide) ?_
  refine zj_iastore d_M_init_629 (fun u156 => ?_)
  refine zj_dup d_M_init_630 (zr_cat _ _) ?_
  refine zj_bipush 7 d_M_init_631 (by decide) ?_
  refine zj_iconst (-1) d_M_init_633 (by decide) ?_
  refine zj_iastore d_M_init_634 (fun u157 => ?_)
  refine zj_dup d_M_init_635 (zr_cat _ _) ?_
  refine zj_bipush 8 d_M_init_636 (by decide) ?_
  refine zj_sipush (-145) d_M_init_638 (by decide) ?_
  refine zj_iastore d_M_init_641 (fun u158 => ?_)
  refine zj_dup d_M_init_642 (zr_cat _ _) ?_
  refine zj_bipush 9 d_M_init_643 (by decide) ?_
  refine zj_sipush (-142) d_M_init_645 (by decide) ?_
  refine zj_iastore d_M_init_648 (fun u159 => ?_)
  refine zj_dup d_M_init_649 (zr_cat _ _) ?_
  refine zj_bipush 10 d_M_init_650 (by decide) ?_
  refine zj_sipush (-145) d_M_init_652 (by decide) ?_
  refine zj_iastore d_M_init_655 (fun u160 => ?_)
  refine zj_dup d_M_init_656 (zr_cat _ _) ?_
  refine zj_bipush 11 d_M_init_657 (by decide) ?_
  refine zj_iconst 3 d_M_init_659 (by decide) ?_
  refine zj_iastore d_M_init_660 (fun u161 => ?_)
  refine zj_dup d_M_init_661 (zr_cat _ _) ?_
  refine zj_bipush 12 d_M_init_662 (by decide) ?_
  refine zj_bipush (-5) d_M_init_664 (by decide) ?_
  refine zj_iastore d_M_init_666 (fun u162 => ?_)
  refine zj_dup d_M_init_667 (zr_cat _ _) ?_
  refine zj_bipush 13 d_M_init_668 (by decide) ?_
  refine zj_sipush (-143) d_M_init_670 (by decide) ?_
  refine zj_iastore d_M_init_673 (fun u163 => ?_)
  refine zj_dup d_M_init_674 (zr_cat _ _) ?_
  refine zj_bipush 14 d_M_init_675 (by decide) ?_
  refine zj_bipush (-2) d_M_init_677 (by decide) ?_
  refine zj_iastore d_M_init_679 (fun u164 => ?_)
  refine zj_dup d_M_init_680 (zr_cat _ _) ?_
  refine zj_bipush 15 d_M_init_681 (by decide) ?_
  refine zj_sipush (-145) d_M_init_683 (by decide) ?_
  refine zj_iastore d_M_init_686 (fun u165 => ?_)
  refine zj_dup d_M_init_687 (zr_cat _ _) ?_
  refine zj_bipush 16 d_M_init_688 (by decide) ?_
  refine zj_bipush 10 d_M_init_690 (by decide) ?_
  refine zj_iastore d_M_init_692 (fun u166 => ?_)
  refine zj_astore_n [some (zr g (some this)), some (zr g (some a148)), none] d_M_init_693 (by decide) rfl rfl ?_
  refine zj_iconst 0 d_M_init_694 (by decide) ?_
  refine zj_istore_n [some (zr g (some this)), some (zr g (some a148)), some (.int 0)] d_M_init_695 (by decide) rfl rfl ?_
  refine zj_fix2 (fun u168 x169 => [some (zr g (some this)), some (zr g (some a148)), some (.int x169)]) (fun u168 x169 => u168) (fun r167 hr167 u168 x169 => ?_) u166 0
  refine zj_iload_n d_M_init_696 rfl ?_
  refine zj_aload_n d_M_init_697 rfl ?_
  refine zj_alen 0 rfl d_M_init_698 (fun v170 => ?_)
  refine zj_icmp_ge 717 d_M_init_699 rfl (fun _ => ?_) (fun _ => ?_)
  · refine zj_aload_n d_M_init_717 rfl ?_
    refine zj_getR fl_M_51 (fun _ _ _ _ => rfl) d_M_init_718 (fun v171 => ?_)
    refine zj_iconst 0 d_M_init_721 (by decide) ?_
    refine zj_iconst 0 d_M_init_722 (by decide) ?_
    refine zj_iastore d_M_init_723 (fun u172 => ?_)
    refine zj_aload_n d_M_init_724 rfl ?_
    refine zj_getR fl_M_54 (fun _ _ _ _ => rfl) d_M_init_725 (fun v173 => ?_)
    refine zj_iconst 0 d_M_init_728 (by decide) ?_
    refine zj_bipush 11 d_M_init_729 (by decide) ?_
    refine zj_iastore d_M_init_731 (fun u174 => ?_)
    refine zj_aload_n d_M_init_732 rfl ?_
    refine zj_getR fl_M_51 (fun _ _ _ _ => rfl) d_M_init_733 (fun v175 => ?_)
    refine zj_iconst 1 d_M_init_736 (by decide) ?_
    refine zj_bipush 11 d_M_init_737 (by decide) ?_
    refine zj_iastore d_M_init_739 (fun u176 => ?_)
    refine zj_aload_n d_M_init_740 rfl ?_
    refine zj_getR fl_M_54 (fun _ _ _ _ => rfl) d_M_init_741 (fun v177 => ?_)
    refine zj_iconst 1 d_M_init_744 (by decide) ?_
    refine zj_bipush 16 d_M_init_745 (by decide) ?_
    refine zj_iastore d_M_init_747 (fun u178 => ?_)
    refine zj_aload_n d_M_init_748 rfl ?_
    refine zj_getR fl_M_51 (fun _ _ _ _ => rfl) d_M_init_749 (fun v179 => ?_)
    refine zj_iconst 2 d_M_init_752 (by decide) ?_
    refine zj_bipush 16 d_M_init_753 (by decide) ?_
    refine zj_iastore d_M_init_755 (fun u180 => ?_)
    refine zj_aload_n d_M_init_756 rfl ?_
    refine zj_getR fl_M_54 (fun _ _ _ _ => rfl) d_M_init_757 (fun v181 => ?_)
    refine zj_iconst 2 d_M_init_760 (by decide) ?_
    refine zj_bipush 17 d_M_init_761 (by decide) ?_
    refine zj_iastore d_M_init_763 (fun u182 => ?_)
    refine zj_aload_n d_M_init_764 rfl ?_
    refine zj_iconst 1 d_M_init_765 (by decide) ?_
    refine zj_putI fl_M_103 (fun _ _ _ _ => rfl) ⟨rfl, rfl⟩ d_M_init_766 (fun u183 => ?_)
    refine zj_iconst 0 d_M_init_769 (by decide) ?_
    refine zj_istore_n [some (zr g (some this)), some (zr g (some a148)), some (.int 0)] d_M_init_770 (by decide) rfl rfl ?_
    refine zj_cut [some (zr g (some this)), none, some (.int 0)] ⟨rfl, ⟨rfl, trivial⟩⟩ ?_
    refine zj_fix2 (fun u185 x186 => [some (zr g (some this)), none, some (.int x186)]) (fun u185 x186 => u185) (fun r184 hr184 u185 x186 => ?_) u183 0
    refine zj_iload_n d_M_init_771 rfl ?_
    refine zj_iconst 4 d_M_init_772 (by decide) ?_
    refine zj_icmp_ge 789 d_M_init_773 rfl (fun _ => ?_) (fun _ => ?_)
    · exact zj_vret rfl rfl rfl rfl d_M_init_789
    refine zj_aload_n d_M_init_776 rfl ?_
    refine zj_getR fl_M_91 (fun _ _ _ _ => rfl) d_M_init_777 (fun v187 => ?_)
    refine zj_iload_n d_M_init_780 rfl ?_
    refine zj_iconst (-1) d_M_init_781 (by decide) ?_
    refine zj_iastore d_M_init_782 (fun u188 => ?_)
    refine zj_iinc (v := (x186 + 1)) [some (zr g (some this)), none, some (.int (x186 + 1))] d_M_init_783 rfl rfl (by decide) rfl rfl ?_
    refine zj_goto 771 d_M_init_786 rfl ?_
    exact hr184 u188 (x186 + 1)
  refine zj_aload_n d_M_init_702 rfl ?_
  refine zj_getR fl_M_48 (fun _ _ _ _ => rfl) d_M_init_703 (fun v189 => ?_)
  refine zj_iload_n d_M_init_706 rfl ?_
  refine zj_aload_n d_M_init_707 rfl ?_
  refine zj_iload_n d_M_init_708 rfl ?_
  refine zj_iaload d_M_init_709 (fun v190 => ?_)
  refine zj_iastore d_M_init_710 (fun u191 => ?_)
  refine zj_iinc (v := (x169 + 1)) [some (zr g (some this)), some (zr g (some a148)), some (.int (x169 + 1))] d_M_init_711 rfl rfl (by decide) rfl rfl ?_
  refine zj_goto 696 d_M_init_714 rfl ?_
  exact hr167 u191 (x169 + 1)
