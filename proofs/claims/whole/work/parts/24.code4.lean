def F_Cover_lacking (u0 : zS) (this : Nat) (a1 : Int32) (a2 : Int32) : Option (Int64) := zfix2 (fun (r1 : Int64 → Int32 → Option (Int64)) (x2 : Int64) (x3 : Int32) => (zgI u0 1 (some this) 0).bind fun v4 => if v4 < x3 then (some x2) else (if 64 ≤ x3 then (some x2) else ((zgI u0 1 (some this) 0).bind fun v5 => if (x3 &&& (v5 ^^^ (-1))) = 0 then ((F_Integer_bitCount u0 x3).bind fun v6 => (zgR u0 1 (some this) 2).bind fun v7 => (zaI u0 .int v7 x3).bind fun v8 => (F_Integer_bitCount u0 v8).bind fun v9 => if ((v6 + a1) - v9) < a2 then (r1 x2 (x3 + 1)) else (zlet ((x2 ||| ((1 : Int64) <<< ((x3 : Int32).toInt64 &&& 63))) : Int64) fun x10 => r1 x10 (x3 + 1))) else (r1 x2 (x3 + 1))))) zFU 0 1
set_option maxHeartbeats 4000000 in
set_option maxRecDepth 100000 in
theorem B_Cover_lacking (g : zG) (d : Nat) {u0 : zS} {this : Nat} {a1 : Int32} {a2 : Int32} {o : Int64} (h : F_Cover_lacking u0 this a1 a2 = some o) : zMt g zy_Cover_lacking (d + 2) 0 0 [zr g (some this), .int a1, .int a2] u0 (some (.long o)) u0 := by
  refine zMt_of2 (ls := [some (zr g (some this)), some (.int a1), some (.int a2), none, none, none]) 3 (by decide +kernel) (by simp [lg_sl, zr_cat, zcI, zcJ]) (by simp [zal, zr_cat, zcI, zcJ, List.replicate]) ?_
  revert h
  show zJ g zy_Cover_lacking (d + 2) 0 0 (zwJp u0) o 0 0 0 [some (zr g (some this)), some (.int a1), some (.int a2), none, none, none] [] u0 (F_Cover_lacking u0 this a1 a2)
  unfold F_Cover_lacking
  refine zj_lconst 0 d_Cover_lacking_0 (by decide) ?_
  refine zj_lstore_n [some (zr g (some this)), some (.int a1), some (.int a2), some (.long 0), none, none] d_Cover_lacking_1 (by decide) rfl rfl ?_
  refine zj_iconst 1 d_Cover_lacking_2 (by decide) ?_
  refine zj_istore [some (zr g (some this)), some (.int a1), some (.int a2), some (.long 0), none, some (.int 1)] d_Cover_lacking_3 (by decide) rfl rfl ?_
  refine zj_fix2 (fun x2 x3 => [some (zr g (some this)), some (.int a1), some (.int a2), some (.long x2), none, some (.int x3)]) (fun x2 x3 => u0) (fun r1 hr1 x2 x3 => ?_) 0 1
  refine zj_iload d_Cover_lacking_5 rfl ?_
  refine zj_aload_n d_Cover_lacking_7 rfl ?_
  refine zj_getI fl_Cover_9 (fun _ _ _ _ => rfl) d_Cover_lacking_8 (fun v4 => ?_)
  refine zj_icmp_gt 71 d_Cover_lacking_11 rfl (fun _ => ?_) (fun _ => ?_)
  · refine zj_lload_n d_Cover_lacking_71 rfl ?_
    exact zj_lret rfl rfl rfl rfl d_Cover_lacking_72
  refine zj_iload d_Cover_lacking_14 rfl ?_
  refine zj_bipush 64 d_Cover_lacking_16 (by decide) ?_
  refine zj_icmp_ge 71 d_Cover_lacking_18 rfl (fun _ => ?_) (fun _ => ?_)
  · refine zj_lload_n d_Cover_lacking_71 rfl ?_
    exact zj_lret rfl rfl rfl rfl d_Cover_lacking_72
  refine zj_iload d_Cover_lacking_21 rfl ?_
  refine zj_aload_n d_Cover_lacking_23 rfl ?_
  refine zj_getI fl_Cover_9 (fun _ _ _ _ => rfl) d_Cover_lacking_24 (fun v5 => ?_)
  refine zj_iconst (-1) d_Cover_lacking_27 (by decide) ?_
  refine zj_ixor d_Cover_lacking_28 ?_
  refine zj_iand d_Cover_lacking_29 ?_
  refine zj_if_eq 36 d_Cover_lacking_30 rfl (fun _ => ?_) (fun _ => ?_)
  · refine zj_iload d_Cover_lacking_36 rfl ?_
    refine zj_cSIp [.int x3] zm_S_Integer_bitCount ml_Cover_22 (fun _ h => B_Integer_bitCount g (d) h) (Nat.le_refl _) ⟨Nat.zero_le _, Nat.zero_le _⟩ rfl rfl (by decide) d_Cover_lacking_38 (fun v6 => ?_)
    refine zj_iload_n d_Cover_lacking_41 rfl ?_
    refine zj_iadd d_Cover_lacking_42 ?_
    refine zj_aload_n d_Cover_lacking_43 rfl ?_
    refine zj_getR fl_Cover_19 (fun _ _ _ _ => rfl) d_Cover_lacking_44 (fun v7 => ?_)
    refine zj_iload d_Cover_lacking_47 rfl ?_
    refine zj_iaload d_Cover_lacking_49 (fun v8 => ?_)
    refine zj_cSIp [.int v8] zm_S_Integer_bitCount ml_Cover_22 (fun _ h => B_Integer_bitCount g (d) h) (Nat.le_refl _) ⟨Nat.zero_le _, Nat.zero_le _⟩ rfl rfl (by simp [zcI, zcJ]) d_Cover_lacking_50 (fun v9 => ?_)
    refine zj_isub d_Cover_lacking_53 ?_
    refine zj_iload_n d_Cover_lacking_54 rfl ?_
    refine zj_icmp_lt 65 d_Cover_lacking_55 rfl (fun _ => ?_) (fun _ => ?_)
    · refine zj_iinc (v := (x3 + 1)) [some (zr g (some this)), some (.int a1), some (.int a2), some (.long x2), none, some (.int (x3 + 1))] d_Cover_lacking_65 rfl rfl (by decide) rfl rfl ?_
      refine zj_goto 5 d_Cover_lacking_68 rfl ?_
      exact hr1 x2 (x3 + 1)
    refine zj_lload_n d_Cover_lacking_58 rfl ?_
    refine zj_lconst 1 d_Cover_lacking_59 (by decide) ?_
    refine zj_iload d_Cover_lacking_60 rfl ?_
    refine zj_lshl d_Cover_lacking_62 ?_
    refine zj_lor d_Cover_lacking_63 ?_
    refine zj_letJ (fun x10 => ?_)
    refine zj_lstore_n [some (zr g (some this)), some (.int a1), some (.int a2), some (.long x10), none, some (.int x3)] d_Cover_lacking_64 (by decide) rfl rfl ?_
    refine zj_iinc (v := (x3 + 1)) [some (zr g (some this)), some (.int a1), some (.int a2), some (.long x10), none, some (.int (x3 + 1))] d_Cover_lacking_65 rfl rfl (by decide) rfl rfl ?_
    refine zj_goto 5 d_Cover_lacking_68 rfl ?_
    exact hr1 x10 (x3 + 1)
  refine zj_goto 65 d_Cover_lacking_33 rfl ?_
  refine zj_iinc (v := (x3 + 1)) [some (zr g (some this)), some (.int a1), some (.int a2), some (.long x2), none, some (.int (x3 + 1))] d_Cover_lacking_65 rfl rfl (by decide) rfl rfl ?_
  refine zj_goto 5 d_Cover_lacking_68 rfl ?_
  exact hr1 x2 (x3 + 1)
def F_Cover_tooFew (u0 : zS) (this : Nat) (a1 : Int32) : Option (Int32) := zfix3 (fun (r1 : Int32 → Int32 → Int32 → Option (Int32)) (x2 : Int32) (x3 : Int32) (x4 : Int32) => (zgI u0 1 (some this) 0).bind fun v5 => if v5 < x4 then (some x2) else (if 64 ≤ x4 then (some x2) else ((zgI u0 1 (some this) 0).bind fun v6 => if (x4 &&& (v6 ^^^ (-1))) = 0 then ((F_Integer_bitCount u0 x4).bind fun v7 => if x3 ≤ v7 then (r1 x2 x3 (x4 + 1)) else ((zgR u0 1 (some this) 2).bind fun v8 => (zaI u0 .int v8 x4).bind fun v9 => (F_Integer_bitCount u0 (v9 &&& a1)).bind fun v10 => if v7 ≤ v10 then (r1 x2 x3 (x4 + 1)) else (r1 x4 v7 (x4 + 1)))) else (r1 x2 x3 (x4 + 1))))) zFU (-1) 7 1
set_option maxHeartbeats 4000000 in
set_option maxRecDepth 100000 in
theorem B_Cover_tooFew (g : zG) (d : Nat) {u0 : zS} {this : Nat} {a1 : Int32} {o : Int32} (h : F_Cover_tooFew u0 this a1 = some o) : zMt g zy_Cover_tooFew (d + 2) 0 0 [zr g (some this), .int a1] u0 (some (.int o)) u0 := by
  refine zMt_of2 (ls := [some (zr g (some this)), some (.int a1), none, none, none, none]) 4 (by decide +kernel) (by simp [lg_sl, zr_cat, zcI, zcJ]) (by simp [zal, zr_cat, zcI, zcJ, List.replicate]) ?_
  revert h
  show zJ g zy_Cover_tooFew (d + 2) 0 0 (zwIp u0) o 0 0 0 [some (zr g (some this)), some (.int a1), none, none, none, none] [] u0 (F_Cover_tooFew u0 this a1)
  unfold F_Cover_tooFew
  refine zj_iconst (-1) d_Cover_tooFew_0 (by decide) ?_
  refine zj_istore_n [some (zr g (some this)), some (.int a1), some (.int (-1)), none, none, none] d_Cover_tooFew_1 (by decide) rfl rfl ?_
  refine zj_bipush 7 d_Cover_tooFew_2 (by decide) ?_
  refine zj_istore_n [some (zr g (some this)), some (.int a1), some (.int (-1)), some (.int 7), none, none] d_Cover_tooFew_4 (by decide) rfl rfl ?_
  refine zj_iconst 1 d_Cover_tooFew_5 (by decide) ?_
  refine zj_istore [some (zr g (some this)), some (.int a1), some (.int (-1)), some (.int 7), some (.int 1), none] d_Cover_tooFew_6 (by decide) rfl rfl ?_
  refine zj_fix3 (fun x2 x3 x4 => [some (zr g (some this)), some (.int a1), some (.int x2), some (.int x3), some (.int x4), none]) (fun x2 x3 x4 => u0) (fun r1 hr1 x2 x3 x4 => ?_) (-1) 7 1
  refine zj_iload d_Cover_tooFew_8 rfl ?_
  refine zj_aload_n d_Cover_tooFew_10 rfl ?_
  refine zj_getI fl_Cover_9 (fun _ _ _ _ => rfl) d_Cover_tooFew_11 (fun v5 => ?_)
  refine zj_icmp_gt 81 d_Cover_tooFew_14 rfl (fun _ => ?_) (fun _ => ?_)
  · refine zj_iload_n d_Cover_tooFew_81 rfl ?_
    exact zj_iret rfl rfl rfl rfl d_Cover_tooFew_82
  refine zj_iload d_Cover_tooFew_17 rfl ?_
  refine zj_bipush 64 d_Cover_tooFew_19 (by decide) ?_
  refine zj_icmp_ge 81 d_Cover_tooFew_21 rfl (fun _ => ?_) (fun _ => ?_)
  · refine zj_iload_n d_Cover_tooFew_81 rfl ?_
    exact zj_iret rfl rfl rfl rfl d_Cover_tooFew_82
  refine zj_iload d_Cover_tooFew_24 rfl ?_
  refine zj_aload_n d_Cover_tooFew_26 rfl ?_
  refine zj_getI fl_Cover_9 (fun _ _ _ _ => rfl) d_Cover_tooFew_27 (fun v6 => ?_)
  refine zj_iconst (-1) d_Cover_tooFew_30 (by decide) ?_
  refine zj_ixor d_Cover_tooFew_31 ?_
  refine zj_iand d_Cover_tooFew_32 ?_
  refine zj_if_eq 39 d_Cover_tooFew_33 rfl (fun _ => ?_) (fun _ => ?_)
  · refine zj_iload d_Cover_tooFew_39 rfl ?_
    refine zj_cSIp [.int x4] zm_S_Integer_bitCount ml_Cover_22 (fun _ h => B_Integer_bitCount g (d) h) (Nat.le_refl _) ⟨Nat.zero_le _, Nat.zero_le _⟩ rfl rfl (by decide) d_Cover_tooFew_41 (fun v7 => ?_)
    refine zj_istore [some (zr g (some this)), some (.int a1), some (.int x2), some (.int x3), some (.int x4), some (.int v7)] d_Cover_tooFew_44 (by decide) rfl rfl ?_
    refine zj_iload d_Cover_tooFew_46 rfl ?_
    refine zj_iload_n d_Cover_tooFew_48 rfl ?_
    refine zj_icmp_ge 75 d_Cover_tooFew_49 rfl (fun _ => ?_) (fun _ => ?_)
    · refine zj_iinc (v := (x4 + 1)) [some (zr g (some this)), some (.int a1), some (.int x2), some (.int x3), some (.int (x4 + 1)), some (.int v7)] d_Cover_tooFew_75 rfl rfl (by decide) rfl rfl ?_
      refine zj_goto 8 d_Cover_tooFew_78 rfl ?_
      refine zj_cut [some (zr g (some this)), some (.int a1), some (.int x2), some (.int x3), some (.int (x4 + 1)), none] ⟨rfl, ⟨rfl, ⟨rfl, ⟨rfl, ⟨rfl, trivial⟩⟩⟩⟩⟩ ?_
      exact hr1 x2 x3 (x4 + 1)
    refine zj_aload_n d_Cover_tooFew_52 rfl ?_
    refine zj_getR fl_Cover_19 (fun _ _ _ _ => rfl) d_Cover_tooFew_53 (fun v8 => ?_)
    refine zj_iload d_Cover_tooFew_56 rfl ?_
    refine zj_iaload d_Cover_tooFew_58 (fun v9 => ?_)
    refine zj_iload_n d_Cover_tooFew_59 rfl ?_
    refine zj_iand d_Cover_tooFew_60 ?_
    refine zj_cSIp [.int (v9 &&& a1)] zm_S_Integer_bitCount ml_Cover_22 (fun _ h => B_Integer_bitCount g (d) h) (Nat.le_refl _) ⟨Nat.zero_le _, Nat.zero_le _⟩ rfl rfl (by decide) d_Cover_tooFew_61 (fun v10 => ?_)
    refine zj_iload d_Cover_tooFew_64 rfl ?_
    refine zj_icmp_ge 75 d_Cover_tooFew_66 rfl (fun _ => ?_) (fun _ => ?_)
    · refine zj_iinc (v := (x4 + 1)) [some (zr g (some this)), some (.int a1), some (.int x2), some (.int x3), some (.int (x4 + 1)), some (.int v7)] d_Cover_tooFew_75 rfl rfl (by decide) rfl rfl ?_
      refine zj_goto 8 d_Cover_tooFew_78 rfl ?_
      refine zj_cut [some (zr g (some this)), some (.int a1), some (.int x2), some (.int x3), some (.int (x4 + 1)), none] ⟨rfl, ⟨rfl, ⟨rfl, ⟨rfl, ⟨rfl, trivial⟩⟩⟩⟩⟩ ?_
      exact hr1 x2 x3 (x4 + 1)
    refine zj_iload d_Cover_tooFew_69 rfl ?_
    refine zj_istore_n [some (zr g (some this)), some (.int a1), some (.int x4), some (.int x3), some (.int x4), some (.int v7)] d_Cover_tooFew_71 (by decide) rfl rfl ?_
    refine zj_iload d_Cover_tooFew_72 rfl ?_
    refine zj_istore_n [some (zr g (some this)), some (.int a1), some (.int x4), some (.int v7), some (.int x4), some (.int v7)] d_Cover_tooFew_74 (by decide) rfl rfl ?_
    refine zj_iinc (v := (x4 + 1)) [some (zr g (some this)), some (.int a1), some (.int x4), some (.int v7), some (.int (x4 + 1)), some (.int v7)] d_Cover_tooFew_75 rfl rfl (by decide) rfl rfl ?_
    refine zj_goto 8 d_Cover_tooFew_78 rfl ?_
    refine zj_cut [some (zr g (some this)), some (.int a1), some (.int x4), some (.int v7), some (.int (x4 + 1)), none] ⟨rfl, ⟨rfl, ⟨rfl, ⟨rfl, ⟨rfl, trivial⟩⟩⟩⟩⟩ ?_
    exact hr1 x4 v7 (x4 + 1)
  refine zj_goto 75 d_Cover_tooFew_36 rfl ?_
  refine zj_iinc (v := (x4 + 1)) [some (zr g (some this)), some (.int a1), some (.int x2), some (.int x3), some (.int (x4 + 1)), none] d_Cover_tooFew_75 rfl rfl (by decide) rfl rfl ?_
  refine zj_goto 8 d_Cover_tooFew_78 rfl ?_
  exact hr1 x2 x3 (x4 + 1)
def F_Person_init (u0 : zS) (this : Nat) : Option (zS) := (zpI u0 3 (some this) 0 0).bind fun u1 => (zpI u1 3 (some this) 1 0).bind fun u2 => (zpI u2 3 (some this) 2 0).bind fun u3 => (zpI u3 3 (some this) 3 0).bind fun u4 => (zpI u4 3 (some this) 4 0).bind fun u5 => (znw u5 (.inl (.int, 6))).bind <| zk fun a6 u7 => (zpR u7 3 (some this) 5 (some a6)).bind fun u8 => (zpI u8 3 (some this) 6 0).bind fun u9 => (zpI u9 3 (some this) 7 0).bind fun u10 => (znw u10 (.inl (.int, 6))).bind <| zk fun a11 u12 => (zpR u12 3 (some this) 8 (some a11)).bind fun u13 => (zpI u13 3 (some this) 9 0).bind fun u14 => (zgR u14 3 (some this) 5).bind fun v15 => (F_Arrays_fill u14 v15 (-1)).bind fun u17 => (zgR u17 3 (some this) 8).bind fun v18 => (F_Arrays_fill u17 v18 (-1)).bind fun u20 => some u20
set_option maxHeartbeats 4000000 in
set_option maxRecDepth 100000 in
theorem B_Person_init (g : zG) (d : Nat) {u0 : zS} {this : Nat} {o : zS} (h : F_Person_init u0 this = some o) : zMt g zy_Person_init (d + 2) 2 12 [zr g (some this)] u0 none o := by
  refine zMt_of2 (ls := [some (zr g (some this))]) 0 (by decide +kernel) (by simp [lg_sl, zr_cat, zcI, zcJ]) (by simp [zal, zr_cat, zcI, zcJ, List.replicate]) ?_
  revert h
  show zJ g zy_Person_init (d + 2) 2 12 zwV o 0 0 0 [some (zr g (some this))] [] u0 (F_Person_init u0 this)
  unfold F_Person_init
  refine zj_aload_n d_Person_init_0 rfl ?_
  refine zj_objInit ⟨_, rfl⟩ oi_Person_3 oi_i oi_c (by omega) (by decide) d_Person_init_1 ?_
  refine zj_aload_n d_Person_init_4 rfl ?_
  refine zj_iconst 0 d_Person_init_5 (by decide) ?_
  refine zj_putI fl_Person_9 (fun _ _ _ _ => rfl) ⟨rfl, rfl⟩ d_Person_init_6 (fun u1 => ?_)
  refine zj_aload_n d_Person_init_9 rfl ?_
  refine zj_iconst 0 d_Person_init_10 (by decide) ?_
  refine zj_putI fl_Person_15 (fun _ _ _ _ => rfl) ⟨rfl, rfl⟩ d_Person_init_11 (fun u2 => ?_)
  refine zj_aload_n d_Person_init_14 rfl ?_
  refine zj_iconst 0 d_Person_init_15 (by decide) ?_
  refine zj_putI fl_Person_18 (fun _ _ _ _ => rfl) ⟨rfl, rfl⟩ d_Person_init_16 (fun u3 => ?_)
  refine zj_aload_n d_Person_init_19 rfl ?_
  refine zj_iconst 0 d_Person_init_20 (by decide) ?_
  refine zj_putI fl_Person_21 (fun _ _ _ _ => rfl) ⟨rfl, rfl⟩ d_Person_init_21 (fun u4 => ?_)
  refine zj_aload_n d_Person_init_24 rfl ?_
  refine zj_iconst 0 d_Person_init_25 (by decide) ?_
  refine zj_putI fl_Person_24 (fun _ _ _ _ => rfl) ⟨rfl, rfl⟩ d_Person_init_26 (fun u5 => ?_)
  refine zj_aload_n d_Person_init_29 rfl ?_
  refine zj_bipush 6 d_Person_init_30 (by decide) ?_
  refine zj_newa (N := 6) 0 rfl rfl (by simp) ac_I (by decide) (by decide) (by decide) (by decide) d_Person_init_32 (fun a6 u7 => ?_)
  refine zj_putFR fl_Person_27 ⟨rfl, rfl⟩ (fun _ _ _ _ => rfl) (znfA _) d_Person_init_34 (fun u8 => ?_)
  refine zj_aload_n d_Person_init_37 rfl ?_
  refine zj_iconst 0 d_Person_init_38 (by decide) ?_
  refine zj_putI fl_Person_31 (fun _ _ _ _ => rfl) ⟨rfl, rfl⟩ d_Person_init_39 (fun u9 => ?_)
  refine zj_aload_n d_Person_init_42 rfl ?_
  refine zj_iconst 0 d_Person_init_43 (by decide) ?_
  refine zj_putI fl_Person_34 (fun _ _ _ _ => rfl) ⟨rfl, rfl⟩ d_Person_init_44 (fun u10 => ?_)
  refine zj_aload_n d_Person_init_47 rfl ?_
  refine zj_bipush 6 d_Person_init_48 (by decide) ?_
  refine zj_newa (N := 6) 0 rfl rfl (by simp) ac_I (by decide) (by decide) (by decide) (by decide) d_Person_init_50 (fun a11 u12 => ?_)
  refine zj_putFR fl_Person_37 ⟨rfl, rfl⟩ (fun _ _ _ _ => rfl) (znfA _) d_Person_init_52 (fun u13 => ?_)
  refine zj_aload_n d_Person_init_55 rfl ?_
  refine zj_iconst 0 d_Person_init_56 (by decide) ?_
  refine zj_putI fl_Person_40 (fun _ _ _ _ => rfl) ⟨rfl, rfl⟩ d_Person_init_57 (fun u14 => ?_)
  refine zj_aload_n d_Person_init_60 rfl ?_
  refine zj_getR fl_Person_27 (fun _ _ _ _ => rfl) d_Person_init_61 (fun v15 => ?_)
  refine zj_iconst (-1) d_Person_init_64 (by decide) ?_
  refine zj_cSU [zr g v15, .int (-1)] zm_S_Arrays_fill ml_Person_43 (fun _ h => B_Arrays_fill g (d) h) (Nat.le_refl _) (by decide) rfl rfl (by decide) d_Person_init_65 (fun u17 => ?_)
  refine zj_aload_n d_Person_init_68 rfl ?_
  refine zj_getR fl_Person_37 (fun _ _ _ _ => rfl) d_Person_init_69 (fun v18 => ?_)
  refine zj_iconst (-1) d_Person_init_72 (by decide) ?_
  refine zj_cSU [zr g v18, .int (-1)] zm_S_Arrays_fill ml_Person_43 (fun _ h => B_Arrays_fill g (d) h) (Nat.le_refl _) (by decide) rfl rfl (by decide) d_Person_init_73 (fun u20 => ?_)
  exact zj_vret rfl rfl rfl rfl d_Person_init_76
def F_Person_describe (u0 : zS) (this : Nat) (a1 : Int32) (a2 : Option Nat) (a3 : Option Nat) : Option (zS) := (zln u0 .int a3).bind fun v1 => if 6 ≤ v1 then ((zgI u0 3 (some this) 1).bind fun v2 => zjn1 (fun (j4 : Int32 → Option (zS)) => if a1 = v2 then (j4 1) else (j4 0)) (fun (x3 : Int32) => (zsI u0 a3 0 x3).bind fun u5 => (zgI u5 3 (some this) 2).bind fun v6 => (zsI u5 a3 1 v6).bind fun u7 => (zgI u7 2 a2 3).bind fun v8 => (zob u7 3 (some this)).bind fun q10 => (F_Person_since u7 q10 a1 v8).bind fun v9 => (zsI u7 a3 2 v9).bind fun u11 => (zob u11 2 a2).bind fun q13 => (F_Office_needs u11 q13 a1).bind fun v12 => zjn1 (fun (j15 : Int32 → Option (zS)) => if v12 = 0 then (j15 0) else (j15 1)) (fun (x14 : Int32) => (zsI u11 a3 3 x14).bind fun u16 => (zgR u16 2 a2 2).bind fun v17 => (zaI u16 .int v17 a1).bind fun v18 => (zsI u16 a3 4 v18).bind fun u19 => (zob u19 3 (some this)).bind fun q21 => (F_Person_lessonsHad u19 q21 ).bind fun v20 => (zsI u19 a3 5 v20).bind fun u22 => some u22))) else (some u0)
set_option maxHeartbeats 4000000 in
set_option maxRecDepth 100000 in
theorem B_Person_describe (g : zG) (d : Nat) {u0 : zS} {this : Nat} {a1 : Int32} {a2 : Option Nat} {a3 : Option Nat} {o : zS} (h : F_Person_describe u0 this a1 a2 a3 = some o) : zMt g zy_Person_describe (d + 2) 0 0 [zr g (some this), .int a1, zr g a2, zr g a3] u0 none o := by
  refine zMt_of2 (ls := [some (zr g (some this)), some (.int a1), some (zr g a2), some (zr g a3)]) 0 (by decide +kernel) (by simp [lg_sl, zr_cat, zcI, zcJ]) (by simp [zal, zr_cat, zcI, zcJ, List.replicate]) ?_
  revert h
  show zJ g zy_Person_describe (d + 2) 0 0 zwV o 0 0 0 [some (zr g (some this)), some (.int a1), some (zr g a2), some (zr g a3)] [] u0 (F_Person_describe u0 this a1 a2 a3)
  unfold F_Person_describe
  refine zj_aload_n d_Person_describe_0 rfl ?_
  refine zj_alen 0 rfl d_Person_describe_1 (fun v1 => ?_)
  refine zj_bipush 6 d_Person_describe_2 (by decide) ?_
  refine zj_icmp_ge 8 d_Person_describe_4 rfl (fun _ => ?_) (fun _ => ?_)
  · refine zj_aload_n d_Person_describe_8 rfl ?_
    refine zj_iconst 0 d_Person_describe_9 (by decide) ?_
    refine zj_iload_n d_Person_describe_10 rfl ?_
    refine zj_aload_n d_Person_describe_11 rfl ?_
    refine zj_getI fl_Person_15 (fun _ _ _ _ => rfl) d_Person_describe_12 (fun v2 => ?_)
    refine zj_jn1 (pcj := 23) (fun x3 => [some (zr g (some this)), some (.int a1), some (zr g a2), some (zr g a3)]) (fun x3 => [.int x3, .int 0, zr g a3]) (fun x3 => u0) (fun x3 => ?_) (fun j4 hj4 => ?_)
    · refine zj_iastore d_Person_describe_23 (fun u5 => ?_)
      refine zj_aload_n d_Person_describe_24 rfl ?_
      refine zj_iconst 1 d_Person_describe_25 (by decide) ?_
      refine zj_aload_n d_Person_describe_26 rfl ?_
      refine zj_getI fl_Person_18 (fun _ _ _ _ => rfl) d_Person_describe_27 (fun v6 => ?_)
      refine zj_iastore d_Person_describe_30 (fun u7 => ?_)
      refine zj_aload_n d_Person_describe_31 rfl ?_
      refine zj_iconst 2 d_Person_describe_32 (by decide) ?_
      refine zj_aload_n d_Person_describe_33 rfl ?_
      refine zj_iload_n d_Person_describe_34 rfl ?_
      refine zj_aload_n d_Person_describe_35 rfl ?_
      refine zj_getI fl_Person_63 (fun _ _ _ _ => rfl) d_Person_describe_36 (fun v8 => ?_)
      refine zj_cVIp (ci := 3) (T := zT3) (N := 10) [.int a1, .int v8] zm_V_Person_since ml_Person_97 rfl (fun _ _ h => B_Person_since g (d) h) (Nat.le_refl _) ⟨Nat.zero_le _, Nat.zero_le _⟩ rfl rfl (by simp [zr_cat, zcI, zcJ]) d_Person_describe_39 (fun v9 => ?_)
      refine zj_iastore d_Person_describe_42 (fun u11 => ?_)
      refine zj_aload_n d_Person_describe_43 rfl ?_
      refine zj_iconst 3 d_Person_describe_44 (by decide) ?_
      refine zj_aload_n d_Person_describe_45 rfl ?_
      refine zj_iload_n d_Person_describe_46 rfl ?_
      refine zj_cVIp (ci := 2) (T := zT2) (N := 4) [.int a1] zm_V_Office_needs ml_Person_78 rfl (fun _ _ h => B_Office_needs g (d) h) (Nat.le_refl _) ⟨Nat.zero_le _, Nat.zero_le _⟩ rfl rfl (by simp [zr_cat, zcI, zcJ]) d_Person_describe_47 (fun v12 => ?_)
      refine zj_jn1 (pcj := 58) (fun x14 => [some (zr g (some this)), some (.int a1), some (zr g a2), some (zr g a3)]) (fun x14 => [.int x14, .int 3, zr g a3]) (fun x14 => u11) (fun x14 => ?_) (fun j15 hj15 => ?_)
      · refine zj_iastore d_Person_describe_58 (fun u16 => ?_)
        refine zj_aload_n d_Person_describe_59 rfl ?_
        refine zj_iconst 4 d_Person_describe_60 (by decide) ?_
        refine zj_aload_n d_Person_describe_61 rfl ?_
        refine zj_getR fl_Person_81 (fun _ _ _ _ => rfl) d_Person_describe_62 (fun v17 => ?_)
        refine zj_iload_n d_Person_describe_65 rfl ?_
        refine zj_iaload d_Person_describe_66 (fun v18 => ?_)
        refine zj_iastore d_Person_describe_67 (fun u19 => ?_)
        refine zj_aload_n d_Person_describe_68 rfl ?_
        refine zj_iconst 5 d_Person_describe_69 (by decide) ?_
        refine zj_aload_n d_Person_describe_70 rfl ?_
        refine zj_cVIp (ci := 3) (T := zT3) (N := 10) [] zm_V_Person_lessonsHad ml_Person_100 rfl (fun _ _ h => B_Person_lessonsHad g (d) h) (Nat.le_refl _) ⟨Nat.zero_le _, Nat.zero_le _⟩ rfl rfl (by simp [zr_cat, zcI, zcJ]) d_Person_describe_71 (fun v20 => ?_)
        refine zj_iastore d_Person_describe_74 (fun u22 => ?_)
        exact zj_vret rfl rfl rfl rfl d_Person_describe_75
      refine zj_if_eq 57 d_Person_describe_50 rfl (fun _ => ?_) (fun _ => ?_)
      · refine zj_iconst 0 d_Person_describe_57 (by decide) ?_
        exact hj15 0
      refine zj_iconst 1 d_Person_describe_53 (by decide) ?_
      refine zj_goto 58 d_Person_describe_54 rfl ?_
      exact hj15 1
    refine zj_icmp_ne 22 d_Person_describe_15 rfl (fun _ => ?_) (fun _ => ?_)
    · refine zj_iconst 0 d_Person_describe_22 (by decide) ?_
      exact hj4 0
    refine zj_iconst 1 d_Person_describe_18 (by decide) ?_
    refine zj_goto 23 d_Person_describe_19 rfl ?_
    exact hj4 1
  exact zj_vret rfl rfl rfl rfl d_Person_describe_7
def F_Person_keeps (u0 : zS) (this : Nat) : Option (Int32) := (zob u0 3 (some this)).bind fun q2 => (F_Person_isA u0 q2 2).bind fun v1 => zjn1 (fun (j4 : Int32 → Option (Int32)) => if v1 = 0 then (j4 2) else ((zgI u0 3 (some this) 2).bind fun v7 => j4 ((2 : Int32) + v7))) (fun (x3 : Int32) => (zgI u0 3 (some this) 0).bind fun v5 => if v5 = 3 then (some (x3 + 1)) else ((zgI u0 3 (some this) 0).bind fun v6 => if v6 = 5 then (some (x3 - 1)) else (some x3)))
set_option maxHeartbeats 4000000 in
set_option maxRecDepth 100000 in
theorem B_Person_keeps (g : zG) (d : Nat) {u0 : zS} {this : Nat} {o : Int32} (h : F_Person_keeps u0 this = some o) : zMt g zy_Person_keeps (d + 2) 0 0 [zr g (some this)] u0 (some (.int o)) u0 := by
  refine zMt_of2 (ls := [some (zr g (some this)), none]) 1 (by decide +kernel) (by simp [lg_sl, zr_cat, zcI, zcJ]) (by simp [zal, zr_cat, zcI, zcJ, List.replicate]) ?_
  revert h
  show zJ g zy_Person_keeps (d + 2) 0 0 (zwIp u0) o 0 0 0 [some (zr g (some this)), none] [] u0 (F_Person_keeps u0 this)
  unfold F_Person_keeps
  refine zj_aload_n d_Person_keeps_0 rfl ?_
  refine zj_iconst 2 d_Person_keeps_1 (by decide) ?_
  refine zj_cVIp (ci := 3) (T := zT3) (N := 10) [.int 2] zm_V_Person_isA ml_Person_52 rfl (fun _ _ h => B_Person_isA g (d) h) (Nat.le_refl _) ⟨Nat.zero_le _, Nat.zero_le _⟩ rfl rfl (by decide) d_Person_keeps_2 (fun v1 => ?_)
  refine zj_jn1 (pcj := 18) (fun x3 => [some (zr g (some this)), none]) (fun x3 => [.int x3]) (fun x3 => u0) (fun x3 => ?_) (fun j4 hj4 => ?_)
  · refine zj_istore_n [some (zr g (some this)), some (.int x3)] d_Person_keeps_18 (by decide) rfl rfl ?_
    refine zj_aload_n d_Person_keeps_19 rfl ?_
    refine zj_getI fl_Person_9 (fun _ _ _ _ => rfl) d_Person_keeps_20 (fun v5 => ?_)
    refine zj_iconst 3 d_Person_keeps_23 (by decide) ?_
    refine zj_icmp_ne 31 d_Person_keeps_24 rfl (fun _ => ?_) (fun _ => ?_)
    · refine zj_aload_n d_Person_keeps_31 rfl ?_
      refine zj_getI fl_Person_9 (fun _ _ _ _ => rfl) d_Person_keeps_32 (fun v6 => ?_)
      refine zj_iconst 5 d_Person_keeps_35 (by decide) ?_
      refine zj_icmp_ne 45 d_Person_keeps_36 rfl (fun _ => ?_) (fun _ => ?_)
      · refine zj_iload_n d_Person_keeps_45 rfl ?_
        exact zj_iret rfl rfl rfl rfl d_Person_keeps_46
      refine zj_iload_n d_Person_keeps_39 rfl ?_
      refine zj_iconst 1 d_Person_keeps_40 (by decide) ?_
      refine zj_isub d_Person_keeps_41 ?_
      refine zj_goto 46 d_Person_keeps_42 rfl ?_
      exact zj_iret rfl rfl rfl rfl d_Person_keeps_46
    refine zj_iload_n d_Person_keeps_27 rfl ?_
    refine zj_iconst 1 d_Person_keeps_28 (by decide) ?_
    refine zj_iadd d_Person_keeps_29 ?_
    exact zj_iret rfl rfl rfl rfl d_Person_keeps_30
  refine zj_if_eq 17 d_Person_keeps_5 rfl (fun _ => ?_) (fun _ => ?_)
  · refine zj_iconst 2 d_Person_keeps_17 (by decide) ?_
    exact hj4 2
  refine zj_iconst 2 d_Person_keeps_8 (by decide) ?_
  refine zj_aload_n d_Person_keeps_9 rfl ?_
  refine zj_getI fl_Person_18 (fun _ _ _ _ => rfl) d_Person_keeps_10 (fun v7 => ?_)
  refine zj_iadd d_Person_keeps_13 ?_
  refine zj_goto 18 d_Person_keeps_14 rfl ?_
  exact hj4 ((2 : Int32) + v7)
def F_Person_restore (u0 : zS) (this : Nat) : Option (zS) := (zgI u0 3 (some this) 7).bind fun v1 => (zpI u0 3 (some this) 4 v1).bind fun u2 => (zgI u2 3 (some this) 9).bind fun v3 => (zpI u2 3 (some this) 6 v3).bind fun u4 => (zgR u4 3 (some this) 8).bind fun v5 => (zgR u4 3 (some this) 5).bind fun v6 => (zcp u4 v5 0 v6 0 6).bind fun u7 => some u7
set_option maxHeartbeats 4000000 in
set_option maxRecDepth 100000 in
theorem B_Person_restore (g : zG) (d : Nat) {u0 : zS} {this : Nat} {o : zS} (h : F_Person_restore u0 this = some o) : zMt g zy_Person_restore (d + 2) 0 0 [zr g (some this)] u0 none o := by
  refine zMt_of2 (ls := [some (zr g (some this))]) 0 (by decide +kernel) (by simp [lg_sl, zr_cat, zcI, zcJ]) (by simp [zal, zr_cat, zcI, zcJ, List.replicate]) ?_
  revert h
  show zJ g zy_Person_restore (d + 2) 0 0 zwV o 0 0 0 [some (zr g (some this))] [] u0 (F_Person_restore u0 this)
  unfold F_Person_restore
  refine zj_aload_n d_Person_restore_0 rfl ?_
  refine zj_aload_n d_Person_restore_1 rfl ?_
  refine zj_getI fl_Person_34 (fun _ _ _ _ => rfl) d_Person_restore_2 (fun v1 => ?_)
  refine zj_putI fl_Person_24 (fun _ _ _ _ => rfl) ⟨rfl, rfl⟩ d_Person_restore_5 (fun u2 => ?_)
  refine zj_aload_n d_Person_restore_8 rfl ?_
  refine zj_aload_n d_Person_restore_9 rfl ?_
  refine zj_getI fl_Person_40 (fun _ _ _ _ => rfl) d_Person_restore_10 (fun v3 => ?_)
  refine zj_putI fl_Person_31 (fun _ _ _ _ => rfl) ⟨rfl, rfl⟩ d_Person_restore_13 (fun u4 => ?_)
  refine zj_aload_n d_Person_restore_16 rfl ?_
  refine zj_getR fl_Person_37 (fun _ _ _ _ => rfl) d_Person_restore_17 (fun v5 => ?_)
  refine zj_iconst 0 d_Person_restore_20 (by decide) ?_
  refine zj_aload_n d_Person_restore_21 rfl ?_
  refine zj_getR fl_Person_27 (fun _ _ _ _ => rfl) d_Person_restore_22 (fun v6 => ?_)
  refine zj_iconst 0 d_Person_restore_25 (by decide) ?_
  refine zj_bipush 6 d_Person_restore_26 (by decide) ?_
  refine zj_acopy ap_Person_103 ap_n ap_s ap_i (by omega) (by decide) d_Person_restore_28 (fun u7 => ?_)
  exact zj_vret rfl rfl rfl rfl d_Person_restore_31
def F_Person_save (u0 : zS) (this : Nat) : Option (zS) := (zgI u0 3 (some this) 4).bind fun v1 => (zpI u0 3 (some this) 7 v1).bind fun u2 => (zgI u2 3 (some this) 6).bind fun v3 => (zpI u2 3 (some this) 9 v3).bind fun u4 => (zgR u4 3 (some this) 5).bind fun v5 => (zgR u4 3 (some this) 8).bind fun v6 => (zcp u4 v5 0 v6 0 6).bind fun u7 => some u7
set_option maxHeartbeats 4000000 in
set_option maxRecDepth 100000 in
theorem B_Person_save (g : zG) (d : Nat) {u0 : zS} {this : Nat} {o : zS} (h : F_Person_save u0 this = some o) : zMt g zy_Person_save (d + 2) 0 0 [zr g (some this)] u0 none o := by
  refine zMt_of2 (ls := [some (zr g (some this))]) 0 (by decide +kernel) (by simp [lg_sl, zr_cat, zcI, zcJ]) (by simp [zal, zr_cat, zcI, zcJ, List.replicate]) ?_
  revert h
  show zJ g zy_Person_save (d + 2) 0 0 zwV o 0 0 0 [some (zr g (some this))] [] u0 (F_Person_save u0 this)
  unfold F_Person_save
  refine zj_aload_n d_Person_save_0 rfl ?_
  refine zj_aload_n d_Person_save_1 rfl ?_
  refine zj_getI fl_Person_24 (fun _ _ _ _ => rfl) d_Person_save_2 (fun v1 => ?_)
  refine zj_putI fl_Person_34 (fun _ _ _ _ => rfl) ⟨rfl, rfl⟩ d_Person_save_5 (fun u2 => ?_)
  refine zj_aload_n d_Person_save_8 rfl ?_
  refine zj_aload_n d_Person_save_9 rfl ?_
  refine zj_getI fl_Person_31 (fun _ _ _ _ => rfl) d_Person_save_10 (fun v3 => ?_)
  refine zj_putI fl_Person_40 (fun _ _ _ _ => rfl) ⟨rfl, rfl⟩ d_Person_save_13 (fun u4 => ?_)
  refine zj_aload_n d_Person_save_16 rfl ?_
  refine zj_getR fl_Person_27 (fun _ _ _ _ => rfl) d_Person_save_17 (fun v5 => ?_)
  refine zj_iconst 0 d_Person_save_20 (by decide) ?_
  refine zj_aload_n d_Person_save_21 rfl ?_
  refine zj_getR fl_Person_37 (fun _ _ _ _ => rfl) d_Person_save_22 (fun v6 => ?_)
  refine zj_iconst 0 d_Person_save_25 (by decide) ?_
  refine zj_bipush 6 d_Person_save_26 (by decide) ?_
  refine zj_acopy ap_Person_103 ap_n ap_s ap_i (by omega) (by decide) d_Person_save_28 (fun u7 => ?_)
  exact zj_vret rfl rfl rfl rfl d_Person_save_31
def F_Plan_firstAt (u0 : zS) (this : Nat) (a1 : Int32) (a2 : Int32) : Option (Int32) := (zgR u0 4 (some this) 3).bind fun v1 => (zaI u0 .int v1 ((a1 * 128) + a2)).bind fun v2 => (zob u0 4 (some this)).bind fun q4 => (F_Plan_worthWith u0 q4 a1 a2 (-1)).bind fun v3 => if v3 = v2 then (some (-1)) else (zfix1 (fun (r5 : Int32 → Option (Int32)) (x6 : Int32) => if 7 ≤ x6 then (some (-1)) else (if ((a2 >>> (x6 &&& 31)) &&& 1) = 1 then ((zob u0 4 (some this)).bind fun q8 => (F_Plan_worthWith u0 q8 a1 a2 x6).bind fun v7 => if v7 = v2 then (some x6) else (r5 (x6 + 1))) else (r5 (x6 + 1)))) zFU 0)
set_option maxHeartbeats 4000000 in
set_option maxRecDepth 100000 in
theorem B_Plan_firstAt (g : zG) (d : Nat) {u0 : zS} {this : Nat} {a1 : Int32} {a2 : Int32} {o : Int32} (h : F_Plan_firstAt u0 this a1 a2 = some o) : zMt g zy_Plan_firstAt (d + 2) 0 0 [zr g (some this), .int a1, .int a2] u0 (some (.int o)) u0 := by
  refine zMt_of2 (ls := [some (zr g (some this)), some (.int a1), some (.int a2), none, none]) 2 (by decide +kernel) (by simp [lg_sl, zr_cat, zcI, zcJ]) (by simp [zal, zr_cat, zcI, zcJ, List.replicate]) ?_
  revert h
  show zJ g zy_Plan_firstAt (d + 2) 0 0 (zwIp u0) o 0 0 0 [some (zr g (some this)), some (.int a1), some (.int a2), none, none] [] u0 (F_Plan_firstAt u0 this a1 a2)
  unfold F_Plan_firstAt
  refine zj_aload_n d_Plan_firstAt_0 rfl ?_
  refine zj_getR fl_Plan_22 (fun _ _ _ _ => rfl) d_Plan_firstAt_1 (fun v1 => ?_)
  refine zj_iload_n d_Plan_firstAt_4 rfl ?_
  refine zj_sipush 128 d_Plan_firstAt_5 (by decide) ?_
  refine zj_imul d_Plan_firstAt_8 ?_
  refine zj_iload_n d_Plan_firstAt_9 rfl ?_
  refine zj_iadd d_Plan_firstAt_10 ?_
  refine zj_iaload d_Plan_firstAt_11 (fun v2 => ?_)
  refine zj_istore_n [some (zr g (some this)), some (.int a1), some (.int a2), some (.int v2), none] d_Plan_firstAt_12 (by decide) rfl rfl ?_
  refine zj_aload_n d_Plan_firstAt_13 rfl ?_
  refine zj_iload_n d_Plan_firstAt_14 rfl ?_
  refine zj_iload_n d_Plan_firstAt_15 rfl ?_
  refine zj_iconst (-1) d_Plan_firstAt_16 (by decide) ?_
  refine zj_cVIp (ci := 4) (T := zT4) (N := 5) [.int a1, .int a2, .int (-1)] zm_V_Plan_worthWith ml_Plan_38 rfl (fun _ _ h => B_Plan_worthWith g (d) h) (Nat.le_refl _) ⟨Nat.zero_le _, Nat.zero_le _⟩ rfl rfl (by decide) d_Plan_firstAt_17 (fun v3 => ?_)
  refine zj_iload_n d_Plan_firstAt_20 rfl ?_
  refine zj_icmp_ne 26 d_Plan_firstAt_21 rfl (fun _ => ?_) (fun _ => ?_)
  · refine zj_iconst 0 d_Plan_firstAt_26 (by decide) ?_
    refine zj_istore [some (zr g (some this)), some (.int a1), some (.int a2), some (.int v2), some (.int 0)] d_Plan_firstAt_27 (by decide) rfl rfl ?_
    refine zj_fix1 (fun x6 => [some (zr g (some this)), some (.int a1), some (.int a2), some (.int v2), some (.int x6)]) (fun x6 => u0) (fun r5 hr5 x6 => ?_) 0
    refine zj_iload d_Plan_firstAt_29 rfl ?_
    refine zj_bipush 7 d_Plan_firstAt_31 (by decide) ?_
    refine zj_icmp_ge 67 d_Plan_firstAt_33 rfl (fun _ => ?_) (fun _ => ?_)
    · refine zj_iconst (-1) d_Plan_firstAt_67 (by decide) ?_
      exact zj_iret rfl rfl rfl rfl d_Plan_firstAt_68
    refine zj_iload_n d_Plan_firstAt_36 rfl ?_
    refine zj_iload d_Plan_firstAt_37 rfl ?_
    refine zj_ishr d_Plan_firstAt_39 ?_
    refine zj_iconst 1 d_Plan_firstAt_40 (by decide) ?_
    refine zj_iand d_Plan_firstAt_41 ?_
    refine zj_iconst 1 d_Plan_firstAt_42 (by decide) ?_
    refine zj_icmp_ne 61 d_Plan_firstAt_43 rfl (fun _ => ?_) (fun _ => ?_)
    · refine zj_iinc (v := (x6 + 1)) [some (zr g (some this)), some (.int a1), some (.int a2), some (.int v2), some (.int (x6 + 1))] d_Plan_firstAt_61 rfl rfl (by decide) rfl rfl ?_
      refine zj_goto 29 d_Plan_firstAt_64 rfl ?_
      exact hr5 (x6 + 1)
    refine zj_aload_n d_Plan_firstAt_46 rfl ?_
    refine zj_iload_n d_Plan_firstAt_47 rfl ?_
    refine zj_iload_n d_Plan_firstAt_48 rfl ?_
    refine zj_iload d_Plan_firstAt_49 rfl ?_
    refine zj_cVIp (ci := 4) (T := zT4) (N := 5) [.int a1, .int a2, .int x6] zm_V_Plan_worthWith ml_Plan_38 rfl (fun _ _ h => B_Plan_worthWith g (d) h) (Nat.le_refl _) ⟨Nat.zero_le _, Nat.zero_le _⟩ rfl rfl (by decide) d_Plan_firstAt_51 (fun v7 => ?_)
    refine zj_iload_n d_Plan_firstAt_54 rfl ?_
    refine zj_icmp_ne 61 d_Plan_firstAt_55 rfl (fun _ => ?_) (fun _ => ?_)
    · refine zj_iinc (v := (x6 + 1)) [some (zr g (some this)), some (.int a1), some (.int a2), some (.int v2), some (.int (x6 + 1))] d_Plan_firstAt_61 rfl rfl (by decide) rfl rfl ?_
      refine zj_goto 29 d_Plan_firstAt_64 rfl ?_
      exact hr5 (x6 + 1)
    refine zj_iload d_Plan_firstAt_58 rfl ?_
    exact zj_iret rfl rfl rfl rfl d_Plan_firstAt_60
  refine zj_iconst (-1) d_Plan_firstAt_24 (by decide) ?_
  exact zj_iret rfl rfl rfl rfl d_Plan_firstAt_25
def F_Plan_most (u0 : zS) (this : Nat) (a1 : Int32) (a2 : Int32) : Option (Int32) := (zob u0 4 (some this)).bind fun q2 => (F_Plan_worthWith u0 q2 a1 a2 (-1)).bind fun v1 => zfix2 (fun (r3 : Int32 → Int32 → Option (Int32)) (x4 : Int32) (x5 : Int32) => if 7 ≤ x5 then (some x4) else (if ((a2 >>> (x5 &&& 31)) &&& 1) = 1 then ((zob u0 4 (some this)).bind fun q7 => (F_Plan_worthWith u0 q7 a1 a2 x5).bind fun v6 => r3 (zmax x4 v6) (x5 + 1)) else (r3 x4 (x5 + 1)))) zFU v1 0
set_option maxHeartbeats 4000000 in
set_option maxRecDepth 100000 in
theorem B_Plan_most (g : zG) (d : Nat) {u0 : zS} {this : Nat} {a1 : Int32} {a2 : Int32} {o : Int32} (h : F_Plan_most u0 this a1 a2 = some o) : zMt g zy_Plan_most (d + 2) 0 0 [zr g (some this), .int a1, .int a2] u0 (some (.int o)) u0 := by
  refine zMt_of2 (ls := [some (zr g (some this)), some (.int a1), some (.int a2), none, none]) 2 (by decide +kernel) (by simp [lg_sl, zr_cat, zcI, zcJ]) (by simp [zal, zr_cat, zcI, zcJ, List.replicate]) ?_
  revert h
  show zJ g zy_Plan_most (d + 2) 0 0 (zwIp u0) o 0 0 0 [some (zr g (some this)), some (.int a1), some (.int a2), none, none] [] u0 (F_Plan_most u0 this a1 a2)
  unfold F_Plan_most
  refine zj_aload_n d_Plan_most_0 rfl ?_
  refine zj_iload_n d_Plan_most_1 rfl ?_
  refine zj_iload_n d_Plan_most_2 rfl ?_
  refine zj_iconst (-1) d_Plan_most_3 (by decide) ?_
  refine zj_cVIp (ci := 4) (T := zT4) (N := 5) [.int a1, .int a2, .int (-1)] zm_V_Plan_worthWith ml_Plan_38 rfl (fun _ _ h => B_Plan_worthWith g (d) h) (Nat.le_refl _) ⟨Nat.zero_le _, Nat.zero_le _⟩ rfl rfl (by decide) d_Plan_most_4 (fun v1 => ?_)
  refine zj_istore_n [some (zr g (some this)), some (.int a1), some (.int a2), some (.int v1), none] d_Plan_most_7 (by decide) rfl rfl ?_
  refine zj_iconst 0 d_Plan_most_8 (by decide) ?_
  refine zj_istore [some (zr g (some this)), some (.int a1), some (.int a2), some (.int v1), some (.int 0)] d_Plan_most_9 (by decide) rfl rfl ?_
  refine zj_fix2 (fun x4 x5 => [some (zr g (some this)), some (.int a1), some (.int a2), some (.int x4), some (.int x5)]) (fun x4 x5 => u0) (fun r3 hr3 x4 x5 => ?_) v1 0
  refine zj_iload d_Plan_most_11 rfl ?_
  refine zj_bipush 7 d_Plan_most_13 (by decide) ?_
  refine zj_icmp_ge 47 d_Plan_most_15 rfl (fun _ => ?_) (fun _ => ?_)
  · refine zj_iload_n d_Plan_most_47 rfl ?_
    exact zj_iret rfl rfl rfl rfl d_Plan_most_48
  refine zj_iload_n d_Plan_most_18 rfl ?_
  refine zj_iload d_Plan_most_19 rfl ?_
  refine zj_ishr d_Plan_most_21 ?_
  refine zj_iconst 1 d_Plan_most_22 (by decide) ?_
  refine zj_iand d_Plan_most_23 ?_
  refine zj_iconst 1 d_Plan_most_24 (by decide) ?_
  refine zj_icmp_ne 41 d_Plan_most_25 rfl (fun _ => ?_) (fun _ => ?_)
  · refine zj_iinc (v := (x5 + 1)) [some (zr g (some this)), some (.int a1), some (.int a2), some (.int x4), some (.int (x5 + 1))] d_Plan_most_41 rfl rfl (by decide) rfl rfl ?_
    refine zj_goto 11 d_Plan_most_44 rfl ?_
    exact hr3 x4 (x5 + 1)
  refine zj_iload_n d_Plan_most_28 rfl ?_
  refine zj_aload_n d_Plan_most_29 rfl ?_
  refine zj_iload_n d_Plan_most_30 rfl ?_
  refine zj_iload_n d_Plan_most_31 rfl ?_
  refine zj_iload d_Plan_most_32 rfl ?_
  refine zj_cVIp (ci := 4) (T := zT4) (N := 5) [.int a1, .int a2, .int x5] zm_V_Plan_worthWith ml_Plan_38 rfl (fun _ _ h => B_Plan_worthWith g (d) h) (Nat.le_refl _) ⟨Nat.zero_le _, Nat.zero_le _⟩ rfl rfl (by simp [zcI, zcJ]) d_Plan_most_34 (fun v6 => ?_)
  refine zj_mmax mtl_Plan_42 mts_max mti_ mtc_max (by omega) ⟨Nat.zero_le _, Nat.zero_le _⟩ (by decide) d_Plan_most_37 ?_
  refine zj_istore_n [some (zr g (some this)), some (.int a1), some (.int a2), some (.int (zmax x4 v6)), some (.int x5)] d_Plan_most_40 (by decide) rfl rfl ?_
  refine zj_iinc (v := (x5 + 1)) [some (zr g (some this)), some (.int a1), some (.int a2), some (.int (zmax x4 v6)), some (.int (x5 + 1))] d_Plan_most_41 rfl rfl (by decide) rfl rfl ?_
  refine zj_goto 11 d_Plan_most_44 rfl ?_
  exact hr3 (zmax x4 v6) (x5 + 1)
def F_Reader_takeNumber (u0 : zS) (this : Nat) : Option (zS) := (zpI u0 5 (some this) 6 0).bind fun u1 => zfix1 (fun (r2 : zS → Option (zS)) (u3 : zS) => (zgI u3 5 (some this) 3).bind fun v4 => (zgI u3 5 (some this) 0).bind fun v5 => if v5 ≤ v4 then ((zgI u3 5 (some this) 3).bind fun v6 => (zgI u3 5 (some this) 5).bind fun v7 => if (v6 - v7) ≤ 4 then ((zpI u3 5 (some this) 4 12).bind fun u8 => some u8) else ((zpI u3 5 (some this) 4 14).bind fun u9 => some u9)) else ((zgR u3 5 (some this) 1).bind fun v10 => (zgI u3 5 (some this) 3).bind fun v11 => (zaI u3 .int v10 v11).bind fun v12 => (F_Reader_isDigit u3 v12).bind fun v13 => if v13 = 0 then ((zgI u3 5 (some this) 3).bind fun v14 => (zgI u3 5 (some this) 5).bind fun v15 => if (v14 - v15) ≤ 4 then ((zpI u3 5 (some this) 4 12).bind fun u16 => some u16) else ((zpI u3 5 (some this) 4 14).bind fun u17 => some u17)) else ((zgI u3 5 (some this) 3).bind fun v18 => (zgI u3 5 (some this) 5).bind fun v19 => if 4 ≤ (v18 - v19) then ((zgI u3 5 (some this) 3).bind fun v20 => (zpI u3 5 (some this) 3 (v20 + 1)).bind fun u21 => r2 u21) else ((zgI u3 5 (some this) 6).bind fun v22 => (zgR u3 5 (some this) 1).bind fun v23 => (zgI u3 5 (some this) 3).bind fun v24 => (zaI u3 .int v23 v24).bind fun v25 => (zpI u3 5 (some this) 6 ((v22 * 10) + (v25 - 48))).bind fun u26 => (zgI u26 5 (some this) 3).bind fun v27 => (zpI u26 5 (some this) 3 (v27 + 1)).bind fun u28 => r2 u28)))) zFU u1
set_option maxHeartbeats 4000000 in
set_option maxRecDepth 100000 in
theorem B_Reader_takeNumber (g : zG) (d : Nat) {u0 : zS} {this : Nat} {o : zS} (h : F_Reader_takeNumber u0 this = some o) : zMt g zy_Reader_takeNumber (d + 2) 0 0 [zr g (some this)] u0 none o := by
  refine zMt_of2 (ls := [some (zr g (some this))]) 0 (by decide +kernel) (by simp [lg_sl, zr_cat, zcI, zcJ]) (by simp [zal, zr_cat, zcI, zcJ, List.replicate]) ?_
  revert h
  show zJ g zy_Reader_takeNumber (d + 2) 0 0 zwV o 0 0 0 [some (zr g (some this))] [] u0 (F_Reader_takeNumber u0 this)
  unfold F_Reader_takeNumber
  refine zj_aload_n d_Reader_takeNumber_0 rfl ?_
  refine zj_iconst 0 d_Reader_takeNumber_1 (by decide) ?_
  refine zj_putI fl_Reader_28 (fun _ _ _ _ => rfl) ⟨rfl, rfl⟩ d_Reader_takeNumber_2 (fun u1 => ?_)
  refine zj_fix1 (fun u3 => [some (zr g (some this))]) (fun u3 => u3) (fun r2 hr2 u3 => ?_) u1
  refine zj_aload_n d_Reader_takeNumber_5 rfl ?_
  refine zj_getI fl_Reader_19 (fun _ _ _ _ => rfl) d_Reader_takeNumber_6 (fun v4 => ?_)
  refine zj_aload_n d_Reader_takeNumber_9 rfl ?_
  refine zj_getI fl_Reader_9 (fun _ _ _ _ => rfl) d_Reader_takeNumber_10 (fun v5 => ?_)
  refine zj_icmp_ge 81 d_Reader_takeNumber_13 rfl (fun _ => ?_) (fun _ => ?_)
  · refine zj_aload_n d_Reader_takeNumber_81 rfl ?_
    refine zj_aload_n d_Reader_takeNumber_82 rfl ?_
    refine zj_getI fl_Reader_19 (fun _ _ _ _ => rfl) d_Reader_takeNumber_83 (fun v6 => ?_)
    refine zj_aload_n d_Reader_takeNumber_86 rfl ?_
    refine zj_getI fl_Reader_25 (fun _ _ _ _ => rfl) d_Reader_takeNumber_87 (fun v7 => ?_)
    refine zj_isub d_Reader_takeNumber_90 ?_
    refine zj_iconst 4 d_Reader_takeNumber_91 (by decide) ?_
    refine zj_icmp_le 100 d_Reader_takeNumber_92 rfl (fun _ => ?_) (fun _ => ?_)
    · refine zj_bipush 12 d_Reader_takeNumber_100 (by decide) ?_
      refine zj_putI fl_Reader_22 (fun _ _ _ _ => rfl) ⟨rfl, rfl⟩ d_Reader_takeNumber_102 (fun u8 => ?_)
      exact zj_vret rfl rfl rfl rfl d_Reader_takeNumber_105
    refine zj_bipush 14 d_Reader_takeNumber_95 (by decide) ?_
    refine zj_goto 102 d_Reader_takeNumber_97 rfl ?_
    refine zj_putI fl_Reader_22 (fun _ _ _ _ => rfl) ⟨rfl, rfl⟩ d_Reader_takeNumber_102 (fun u9 => ?_)
    exact zj_vret rfl rfl rfl rfl d_Reader_takeNumber_105
  refine zj_aload_n d_Reader_takeNumber_16 rfl ?_
  refine zj_getR fl_Reader_15 (fun _ _ _ _ => rfl) d_Reader_takeNumber_17 (fun v10 => ?_)
  refine zj_aload_n d_Reader_takeNumber_20 rfl ?_
  refine zj_getI fl_Reader_19 (fun _ _ _ _ => rfl) d_Reader_takeNumber_21 (fun v11 => ?_)
  refine zj_iaload d_Reader_takeNumber_24 (fun v12 => ?_)
  refine zj_cSIp [.int v12] zm_S_Reader_isDigit ml_Reader_87 (fun _ h => B_Reader_isDigit g (d) h) (Nat.le_refl _) ⟨Nat.zero_le _, Nat.zero_le _⟩ rfl rfl (by decide) d_Reader_takeNumber_25 (fun v13 => ?_)
  refine zj_if_eq 81 d_Reader_takeNumber_28 rfl (fun _ => ?_) (fun _ => ?_)
  · refine zj_aload_n d_Reader_takeNumber_81 rfl ?_
    refine zj_aload_n d_Reader_takeNumber_82 rfl ?_
    refine zj_getI fl_Reader_19 (fun _ _ _ _ => rfl) d_Reader_takeNumber_83 (fun v14 => ?_)
    refine zj_aload_n d_Reader_takeNumber_86 rfl ?_
    refine zj_getI fl_Reader_25 (fun _ _ _ _ => rfl) d_Reader_takeNumber_87 (fun v15 => ?_)
    refine zj_isub d_Reader_takeNumber_90 ?_
    refine zj_iconst 4 d_Reader_takeNumber_91 (by decide) ?_
    refine zj_icmp_le 100 d_Reader_takeNumber_92 rfl (fun _ => ?_) (fun _ => ?_)
    · refine zj_bipush 12 d_Reader_takeNumber_100 (by decide) ?_
      refine zj_putI fl_Reader_22 (fun _ _ _ _ => rfl) ⟨rfl, rfl⟩ d_Reader_takeNumber_102 (fun u16 => ?_)
      exact zj_vret rfl rfl rfl rfl d_Reader_takeNumber_105
    refine zj_bipush 14 d_Reader_takeNumber_95 (by decide) ?_
    refine zj_goto 102 d_Reader_takeNumber_97 rfl ?_
    refine zj_putI fl_Reader_22 (fun _ _ _ _ => rfl) ⟨rfl, rfl⟩ d_Reader_takeNumber_102 (fun u17 => ?_)
    exact zj_vret rfl rfl rfl rfl d_Reader_takeNumber_105
  refine zj_aload_n d_Reader_takeNumber_31 rfl ?_
  refine zj_getI fl_Reader_19 (fun _ _ _ _ => rfl) d_Reader_takeNumber_32 (fun v18 => ?_)
  refine zj_aload_n d_Reader_takeNumber_35 rfl ?_
  refine zj_getI fl_Reader_25 (fun _ _ _ _ => rfl) d_Reader_takeNumber_36 (fun v19 => ?_)
  refine zj_isub d_Reader_takeNumber_39 ?_
  refine zj_iconst 4 d_Reader_takeNumber_40 (by decide) ?_
  refine zj_icmp_ge 68 d_Reader_takeNumber_41 rfl (fun _ => ?_) (fun _ => ?_)
  · refine zj_aload_n d_Reader_takeNumber_68 rfl ?_
    refine zj_dup d_Reader_takeNumber_69 (zr_cat _ _) ?_
    refine zj_getI fl_Reader_19 (fun _ _ _ _ => rfl) d_Reader_takeNumber_70 (fun v20 => ?_)
    refine zj_iconst 1 d_Reader_takeNumber_73 (by decide) ?_
    refine zj_iadd d_Reader_takeNumber_74 ?_
    refine zj_putI fl_Reader_19 (fun _ _ _ _ => rfl) ⟨rfl, rfl⟩ d_Reader_takeNumber_75 (fun u21 => ?_)
    refine zj_goto 5 d_Reader_takeNumber_78 rfl ?_
    exact hr2 u21
  refine zj_aload_n d_Reader_takeNumber_44 rfl ?_
  refine zj_aload_n d_Reader_takeNumber_45 rfl ?_
  refine zj_getI fl_Reader_28 (fun _ _ _ _ => rfl) d_Reader_takeNumber_46 (fun v22 => ?_)
  refine zj_bipush 10 d_Reader_takeNumber_49 (by decide) ?_
  refine zj_imul d_Reader_takeNumber_51 ?_
  refine zj_aload_n d_Reader_takeNumber_52 rfl ?_
  refine zj_getR fl_Reader_15 (fun _ _ _ _ => rfl) d_Reader_takeNumber_53 (fun v23 => ?_)
  refine zj_aload_n d_Reader_takeNumber_56 rfl ?_
  refine zj_getI fl_Reader_19 (fun _ _ _ _ => rfl) d_Reader_takeNumber_57 (fun v24 => ?_)
  refine zj_iaload d_Reader_takeNumber_60 (fun v25 => ?_)
  refine zj_bipush 48 d_Reader_takeNumber_61 (by decide) ?_
  refine zj_isub d_Reader_takeNumber_63 ?_
  refine zj_iadd d_Reader_takeNumber_64 ?_
  refine zj_putI fl_Reader_28 (fun _ _ _ _ => rfl) ⟨rfl, rfl⟩ d_Reader_takeNumber_65 (fun u26 => ?_)
  refine zj_aload_n d_Reader_takeNumber_68 rfl ?_
  refine zj_dup d_Reader_takeNumber_69 (zr_cat _ _) ?_
  refine zj_getI fl_Reader_19 (fun _ _ _ _ => rfl) d_Reader_takeNumber_70 (fun v27 => ?_)
  refine zj_iconst 1 d_Reader_takeNumber_73 (by decide) ?_
  refine zj_iadd d_Reader_takeNumber_74 ?_
  refine zj_putI fl_Reader_19 (fun _ _ _ _ => rfl) ⟨rfl, rfl⟩ d_Reader_takeNumber_75 (fun u28 => ?_)
  refine zj_goto 5 d_Reader_takeNumber_78 rfl ?_
  exact hr2 u28
def F_Sheet_become (u0 : zS) (this : Nat) (a1 : Int32) (a2 : Int32) : Option (zS) := (zpI u0 6 (some this) 0 a1).bind fun u1 => (zpI u1 6 (some this) 1 a2).bind fun u2 => (zgR u2 6 (some this) 2).bind fun v3 => (F_Arrays_fill u2 v3 0).bind fun u5 => some u5
set_option maxHeartbeats 4000000 in
set_option maxRecDepth 100000 in
theorem B_Sheet_become (g : zG) (d : Nat) {u0 : zS} {this : Nat} {a1 : Int32} {a2 : Int32} {o : zS} (h : F_Sheet_become u0 this a1 a2 = some o) : zMt g zy_Sheet_become (d + 2) 0 0 [zr g (some this), .int a1, .int a2] u0 none o := by
  refine zMt_of2 (ls := [some (zr g (some this)), some (.int a1), some (.int a2)]) 0 (by decide +kernel) (by simp [lg_sl, zr_cat, zcI, zcJ]) (by simp [zal, zr_cat, zcI, zcJ, List.replicate]) ?_
  revert h
  show zJ g zy_Sheet_become (d + 2) 0 0 zwV o 0 0 0 [some (zr g (some this)), some (.int a1), some (.int a2)] [] u0 (F_Sheet_become u0 this a1 a2)
  unfold F_Sheet_become
  refine zj_aload_n d_Sheet_become_0 rfl ?_
  refine zj_iload_n d_Sheet_become_1 rfl ?_
  refine zj_putI fl_Sheet_11 (fun _ _ _ _ => rfl) ⟨rfl, rfl⟩ d_Sheet_become_2 (fun u1 => ?_)
  refine zj_aload_n d_Sheet_become_5 rfl ?_
  refine zj_iload_n d_Sheet_become_6 rfl ?_
  refine zj_putI fl_Sheet_15 (fun _ _ _ _ => rfl) ⟨rfl, rfl⟩ d_Sheet_become_7 (fun u2 => ?_)
  refine zj_aload_n d_Sheet_become_10 rfl ?_
  refine zj_getR fl_Sheet_18 (fun _ _ _ _ => rfl) d_Sheet_become_11 (fun v3 => ?_)
  refine zj_iconst 0 d_Sheet_become_14 (by decide) ?_
  refine zj_cSU [zr g v3, .int 0] zm_S_Arrays_fill ml_Sheet_22 (fun _ h => B_Arrays_fill g (d) h) (Nat.le_refl _) ⟨Nat.zero_le _, Nat.zero_le _⟩ rfl rfl (by decide) d_Sheet_become_15 (fun u5 => ?_)
  exact zj_vret rfl rfl rfl rfl d_Sheet_become_18
def F_Sheet_put (u0 : zS) (this : Nat) (a1 : Int32) (a2 : Int32) : Option (zS) := (zob u0 6 (some this)).bind fun q2 => (F_Sheet_has u0 q2 a1).bind fun v1 => if v1 = 0 then (some u0) else ((zgR u0 6 (some this) 2).bind fun v3 => (zgI u0 6 (some this) 0).bind fun v4 => if v4 = 0 then ((zsI u0 v3 a1 ((a2 : Int32).toInt8.toInt32)).bind fun u8 => some u8) else ((zgI u0 6 (some this) 0).bind fun v5 => if v5 = 1 then ((zsI u0 v3 a1 ((a2 : Int32).toInt16.toInt32)).bind fun u7 => some u7) else ((zsI u0 v3 a1 a2).bind fun u6 => some u6)))
set_option maxHeartbeats 4000000 in
set_option maxRecDepth 100000 in
theorem B_Sheet_put (g : zG) (d : Nat) {u0 : zS} {this : Nat} {a1 : Int32} {a2 : Int32} {o : zS} (h : F_Sheet_put u0 this a1 a2 = some o) : zMt g zy_Sheet_put (d + 2) 0 0 [zr g (some this), .int a1, .int a2] u0 none o := by
  refine zMt_of2 (ls := [some (zr g (some this)), some (.int a1), some (.int a2)]) 0 (by decide +kernel) (by simp [lg_sl, zr_cat, zcI, zcJ]) (by simp [zal, zr_cat, zcI, zcJ, List.replicate]) ?_
  revert h
  show zJ g zy_Sheet_put (d + 2) 0 0 zwV o 0 0 0 [some (zr g (some this)), some (.int a1), some (.int a2)] [] u0 (F_Sheet_put u0 this a1 a2)
  unfold F_Sheet_put
  refine zj_aload_n d_Sheet_put_0 rfl ?_
  refine zj_iload_n d_Sheet_put_1 rfl ?_
  refine zj_cVIp (ci := 6) (T := zT6) (N := 3) [.int a1] zm_V_Sheet_has ml_Sheet_28 rfl (fun _ _ h => B_Sheet_has g (d) h) (Nat.le_refl _) ⟨Nat.zero_le _, Nat.zero_le _⟩ rfl rfl (by decide) d_Sheet_put_2 (fun v1 => ?_)
  refine zj_if_eq 40 d_Sheet_put_5 rfl (fun _ => ?_) (fun _ => ?_)
  · exact zj_vret rfl rfl rfl rfl d_Sheet_put_40
  refine zj_aload_n d_Sheet_put_8 rfl ?_
  refine zj_getR fl_Sheet_18 (fun _ _ _ _ => rfl) d_Sheet_put_9 (fun v3 => ?_)
  refine zj_iload_n d_Sheet_put_12 rfl ?_
  refine zj_aload_n d_Sheet_put_13 rfl ?_
  refine zj_getI fl_Sheet_11 (fun _ _ _ _ => rfl) d_Sheet_put_14 (fun v4 => ?_)
  refine zj_if_ne 25 d_Sheet_put_17 rfl (fun _ => ?_) (fun _ => ?_)
  · refine zj_aload_n d_Sheet_put_25 rfl ?_
    refine zj_getI fl_Sheet_11 (fun _ _ _ _ => rfl) d_Sheet_put_26 (fun v5 => ?_)
    refine zj_iconst 1 d_Sheet_put_29 (by decide) ?_
    refine zj_icmp_ne 38 d_Sheet_put_30 rfl (fun _ => ?_) (fun _ => ?_)
    · refine zj_iload_n d_Sheet_put_38 rfl ?_
      refine zj_iastore d_Sheet_put_39 (fun u6 => ?_)
      exact zj_vret rfl rfl rfl rfl d_Sheet_put_40
    refine zj_iload_n d_Sheet_put_33 rfl ?_
    refine zj_i2s d_Sheet_put_34 ?_
    refine zj_goto 39 d_Sheet_put_35 rfl ?_
    refine zj_iastore d_Sheet_put_39 (fun u7 => ?_)
    exact zj_vret rfl rfl rfl rfl d_Sheet_put_40
  refine zj_iload_n d_Sheet_put_20 rfl ?_
  refine zj_i2b d_Sheet_put_21 ?_
  refine zj_goto 39 d_Sheet_put_22 rfl ?_
  refine zj_iastore d_Sheet_put_39 (fun u8 => ?_)
  exact zj_vret rfl rfl rfl rfl d_Sheet_put_40
def F_Text_valueOf (u0 : zS) (this : Nat) (a1 : Int32) (a2 : Option Nat) : Option (Int32 × zS) := if a1 < 0 then (some (0, u0)) else (if a1 < 3 then (zjn1 (fun (j2 : Int32 → Option (Int32 × zS)) => if a1 = 0 then (j2 0) else ((zgR u0 7 (some this) 2).bind fun v98 => (zaI u0 .int v98 (a1 - 1)).bind fun v99 => j2 v99)) (fun (x1 : Int32) => zfix3 (fun (r3 : zS → Int32 → Int32 → Option (Int32 × zS)) (u4 : zS) (x5 : Int32) (x6 : Int32) => (zgR u4 7 (some this) 2).bind fun v7 => (zaI u4 .int v7 a1).bind fun v8 => if v8 ≤ x6 then ((zgR u4 7 (some this) 3).bind fun v9 => (zaI u4 .int v9 0).bind fun v10 => some (v10, u4)) else ((zgR u4 7 (some this) 0).bind fun v11 => (zaI u4 .int v11 x6).bind fun v12 => if 20000 ≤ v12 then (if v12 = 20000 then (if x5 < 1 then (if v12 = 20001 then (if x5 < 1 then (if v12 ≤ 20001 then (r3 u4 x5 (x6 + 1)) else (if x5 < 2 then (r3 u4 x5 (x6 + 1)) else ((zgR u4 7 (some this) 3).bind fun v38 => (zgR u4 7 (some this) 3).bind fun v39 => (zaI u4 .int v39 ((x5 + (-1)) - 1)).bind fun v40 => (zgR u4 7 (some this) 3).bind fun v41 => (zaI u4 .int v41 (x5 + (-1))).bind fun v42 => (F_Text_joined u4 v12 v40 v42).bind fun v43 => (zsI u4 v38 ((x5 + (-1)) - 1) v43).bind fun u44 => r3 u44 (x5 + (-1)) (x6 + 1)))) else ((zgR u4 7 (some this) 3).bind fun v45 => (zgR u4 7 (some this) 3).bind fun v46 => (zaI u4 .int v46 (x5 - 1)).bind fun v47 => (zsI u4 v45 (x5 - 1) (-v47)).bind fun u48 => r3 u48 x5 (x6 + 1))) else (if v12 ≤ 20001 then (r3 u4 x5 (x6 + 1)) else (if x5 < 2 then (r3 u4 x5 (x6 + 1)) else ((zgR u4 7 (some this) 3).bind fun v31 => (zgR u4 7 (some this) 3).bind fun v32 => (zaI u4 .int v32 ((x5 + (-1)) - 1)).bind fun v33 => (zgR u4 7 (some this) 3).bind fun v34 => (zaI u4 .int v34 (x5 + (-1))).bind fun v35 => (F_Text_joined u4 v12 v33 v35).bind fun v36 => (zsI u4 v31 ((x5 + (-1)) - 1) v36).bind fun u37 => r3 u37 (x5 + (-1)) (x6 + 1))))) else ((zgR u4 7 (some this) 3).bind fun v49 => (zgR u4 7 (some this) 3).bind fun v50 => (zaI u4 .int v50 (x5 - 1)).bind fun v51 => if v51 = 0 then ((zsI u4 v49 (x5 - 1) 1).bind fun u53 => r3 u53 x5 (x6 + 1)) else ((zsI u4 v49 (x5 - 1) 0).bind fun u52 => r3 u52 x5 (x6 + 1)))) else (if v12 = 20001 then (if x5 < 1 then (if v12 ≤ 20001 then (r3 u4 x5 (x6 + 1)) else (if x5 < 2 then (r3 u4 x5 (x6 + 1)) else ((zgR u4 7 (some this) 3).bind fun v20 => (zgR u4 7 (some this) 3).bind fun v21 => (zaI u4 .int v21 ((x5 + (-1)) - 1)).bind fun v22 => (zgR u4 7 (some this) 3).bind fun v23 => (zaI u4 .int v23 (x5 + (-1))).bind fun v24 => (F_Text_joined u4 v12 v22 v24).bind fun v25 => (zsI u4 v20 ((x5 + (-1)) - 1) v25).bind fun u26 => r3 u26 (x5 + (-1)) (x6 + 1)))) else ((zgR u4 7 (some this) 3).bind fun v27 => (zgR u4 7 (some this) 3).bind fun v28 => (zaI u4 .int v28 (x5 - 1)).bind fun v29 => (zsI u4 v27 (x5 - 1) (-v29)).bind fun u30 => r3 u30 x5 (x6 + 1))) else (if v12 ≤ 20001 then (r3 u4 x5 (x6 + 1)) else (if x5 < 2 then (r3 u4 x5 (x6 + 1)) else ((zgR u4 7 (some this) 3).bind fun v13 => (zgR u4 7 (some this) 3).bind fun v14 => (zaI u4 .int v14 ((x5 + (-1)) - 1)).bind fun v15 => (zgR u4 7 (some this) 3).bind fun v16 => (zaI u4 .int v16 (x5 + (-1))).bind fun v17 => (F_Text_joined u4 v12 v15 v17).bind fun v18 => (zsI u4 v13 ((x5 + (-1)) - 1) v18).bind fun u19 => r3 u19 (x5 + (-1)) (x6 + 1)))))) else (if 40 ≤ x5 then (if v12 = 20000 then (if x5 < 1 then (if v12 = 20001 then (if x5 < 1 then (if v12 ≤ 20001 then (r3 u4 x5 (x6 + 1)) else (if x5 < 2 then (r3 u4 x5 (x6 + 1)) else ((zgR u4 7 (some this) 3).bind fun v79 => (zgR u4 7 (some this) 3).bind fun v80 => (zaI u4 .int v80 ((x5 + (-1)) - 1)).bind fun v81 => (zgR u4 7 (some this) 3).bind fun v82 => (zaI u4 .int v82 (x5 + (-1))).bind fun v83 => (F_Text_joined u4 v12 v81 v83).bind fun v84 => (zsI u4 v79 ((x5 + (-1)) - 1) v84).bind fun u85 => r3 u85 (x5 + (-1)) (x6 + 1)))) else ((zgR u4 7 (some this) 3).bind fun v86 => (zgR u4 7 (some this) 3).bind fun v87 => (zaI u4 .int v87 (x5 - 1)).bind fun v88 => (zsI u4 v86 (x5 - 1) (-v88)).bind fun u89 => r3 u89 x5 (x6 + 1))) else (if v12 ≤ 20001 then (r3 u4 x5 (x6 + 1)) else (if x5 < 2 then (r3 u4 x5 (x6 + 1)) else ((zgR u4 7 (some this) 3).bind fun v72 => (zgR u4 7 (some this) 3).bind fun v73 => (zaI u4 .int v73 ((x5 + (-1)) - 1)).bind fun v74 => (zgR u4 7 (some this) 3).bind fun v75 => (zaI u4 .int v75 (x5 + (-1))).bind fun v76 => (F_Text_joined u4 v12 v74 v76).bind fun v77 => (zsI u4 v72 ((x5 + (-1)) - 1) v77).bind fun u78 => r3 u78 (x5 + (-1)) (x6 + 1))))) else ((zgR u4 7 (some this) 3).bind fun v90 => (zgR u4 7 (some this) 3).bind fun v91 => (zaI u4 .int v91 (x5 - 1)).bind fun v92 => if v92 = 0 then ((zsI u4 v90 (x5 - 1) 1).bind fun u94 => r3 u94 x5 (x6 + 1)) else ((zsI u4 v90 (x5 - 1) 0).bind fun u93 => r3 u93 x5 (x6 + 1)))) else (if v12 = 20001 then (if x5 < 1 then (if v12 ≤ 20001 then (r3 u4 x5 (x6 + 1)) else (if x5 < 2 then (r3 u4 x5 (x6 + 1)) else ((zgR u4 7 (some this) 3).bind fun v61 => (zgR u4 7 (some this) 3).bind fun v62 => (zaI u4 .int v62 ((x5 + (-1)) - 1)).bind fun v63 => (zgR u4 7 (some this) 3).bind fun v64 => (zaI u4 .int v64 (x5 + (-1))).bind fun v65 => (F_Text_joined u4 v12 v63 v65).bind fun v66 => (zsI u4 v61 ((x5 + (-1)) - 1) v66).bind fun u67 => r3 u67 (x5 + (-1)) (x6 + 1)))) else ((zgR u4 7 (some this) 3).bind fun v68 => (zgR u4 7 (some this) 3).bind fun v69 => (zaI u4 .int v69 (x5 - 1)).bind fun v70 => (zsI u4 v68 (x5 - 1) (-v70)).bind fun u71 => r3 u71 x5 (x6 + 1))) else (if v12 ≤ 20001 then (r3 u4 x5 (x6 + 1)) else (if x5 < 2 then (r3 u4 x5 (x6 + 1)) else ((zgR u4 7 (some this) 3).bind fun v54 => (zgR u4 7 (some this) 3).bind fun v55 => (zaI u4 .int v55 ((x5 + (-1)) - 1)).bind fun v56 => (zgR u4 7 (some this) 3).bind fun v57 => (zaI u4 .int v57 (x5 + (-1))).bind fun v58 => (F_Text_joined u4 v12 v56 v58).bind fun v59 => (zsI u4 v54 ((x5 + (-1)) - 1) v59).bind fun u60 => r3 u60 (x5 + (-1)) (x6 + 1)))))) else ((zgR u4 7 (some this) 3).bind fun v95 => (F_Text_pushed u4 v12 a2).bind fun v96 => (zsI u4 v95 x5 v96).bind fun u97 => r3 u97 (x5 + 1) (x6 + 1))))) zFU u0 0 x1)) else (some (0, u0)))
set_option maxHeartbeats 4000000 in
set_option maxRecDepth 100000 in
theorem B_Text_valueOf (g : zG) (d : Nat) {u0 : zS} {this : Nat} {a1 : Int32} {a2 : Option Nat} {o : Int32 × zS} (h : F_Text_valueOf u0 this a1 a2 = some o) : zMt g zy_Text_valueOf (d + 2) 0 0 [zr g (some this), .int a1, zr g a2] u0 (some (.int o.1)) o.2 := by
  refine zMt_of2 (ls := [some (zr g (some this)), some (.int a1), some (zr g a2), none, none, none]) 3 (by decide +kernel) (by simp [lg_sl, zr_cat, zcI, zcJ]) (by simp [zal, zr_cat, zcI, zcJ, List.replicate]) ?_
  revert h
  show zJ g zy_Text_valueOf (d + 2) 0 0 zwI o 0 0 0 [some (zr g (some this)), some (.int a1), some (zr g a2), none, none, none] [] u0 (F_Text_valueOf u0 this a1 a2)
  unfold F_Text_valueOf
  refine zj_iload_n d_Text_valueOf_0 rfl ?_
  refine zj_if_lt 9 d_Text_valueOf_1 rfl (fun _ => ?_) (fun _ => ?_)
  · refine zj_iconst 0 d_Text_valueOf_9 (by decide) ?_
    exact zj_iret rfl rfl rfl rfl d_Text_valueOf_10
  refine zj_iload_n d_Text_valueOf_4 rfl ?_
  refine zj_iconst 3 d_Text_valueOf_5 (by decide) ?_
  refine zj_icmp_lt 11 d_Text_valueOf_6 rfl (fun _ => ?_) (fun _ => ?_)
  · refine zj_iconst 0 d_Text_valueOf_11 (by decide) ?_
    refine zj_istore_n [some (zr g (some this)), some (.int a1), some (zr g a2), some (.int 0), none, none] d_Text_valueOf_12 (by decide) (by simp [zNL, zr_cat]) rfl ?_
    refine zj_iload_n d_Text_valueOf_13 rfl ?_
    refine zj_jn1 (pcj := 29) (fun x1 => [some (zr g (some this)), some (.int a1), some (zr g a2), some (.int 0), none, none]) (fun x1 => [.int x1]) (fun x1 => u0) (fun x1 => ?_) (fun j2 hj2 => ?_)
    · refine zj_istore [some (zr g (some this)), some (.int a1), some (zr g a2), some (.int 0), some (.int x1), none] d_Text_valueOf_29 (by decide) rfl rfl ?_
      refine zj_fix3 (fun u4 x5 x6 => [some (zr g (some this)), some (.int a1), some (zr g a2), some (.int x5), some (.int x6), none]) (fun u4 x5 x6 => u4) (fun r3 hr3 u4 x5 x6 => ?_) u0 0 x1
      refine zj_iload d_Text_valueOf_31 rfl ?_
      refine zj_aload_n d_Text_valueOf_33 rfl ?_
      refine zj_getR fl_Text_19 (fun _ _ _ _ => rfl) d_Text_valueOf_34 (fun v7 => ?_)
      refine zj_iload_n d_Text_valueOf_37 rfl ?_
      refine zj_iaload d_Text_valueOf_38 (fun v8 => ?_)
      refine zj_icmp_ge 205 d_Text_valueOf_39 rfl (fun _ => ?_) (fun _ => ?_)
      · refine zj_aload_n d_Text_valueOf_205 rfl ?_
        refine zj_getR fl_Text_22 (fun _ _ _ _ => rfl) d_Text_valueOf_206 (fun v9 => ?_)
        refine zj_iconst 0 d_Text_valueOf_209 (by decide) ?_
        refine zj_iaload d_Text_valueOf_210 (fun v10 => ?_)
        exact zj_iret rfl rfl rfl rfl d_Text_valueOf_211
      refine zj_aload_n d_Text_valueOf_42 rfl ?_
      refine zj_getR fl_Text_9 (fun _ _ _ _ => rfl) d_Text_valueOf_43 (fun v11 => ?_)
      refine zj_iload d_Text_valueOf_46 rfl ?_
      refine zj_iaload d_Text_valueOf_48 (fun v12 => ?_)
      refine zj_istore [some (zr g (some this)), some (.int a1), some (zr g a2), some (.int x5), some (.int x6), some (.int v12)] d_Text_valueOf_49 (by decide) rfl rfl ?_
      refine zj_iload d_Text_valueOf_51 rfl ?_
      refine zj_sipush 20000 d_Text_valueOf_53 (by decide) ?_
      refine zj_icmp_ge 83 d_Text_valueOf_56 rfl (fun _ => ?_) (fun _ => ?_)
      · refine zj_iload d_Text_valueOf_83 rfl ?_
        refine zj_sipush 20000 d_Text_valueOf_85 (by decide) ?_
        refine zj_icmp_ne 123 d_Text_valueOf_88 rfl (fun _ => ?_) (fun _ => ?_)
        · refine zj_iload d_Text_valueOf_123 rfl ?_
          refine zj_sipush 20001 d_Text_valueOf_125 (by decide) ?_
          refine zj_icmp_ne 156 d_Text_valueOf_128 rfl (fun _ => ?_) (fun _ => ?_)
          · refine zj_iload d_Text_valueOf_156 rfl ?_
            refine zj_sipush 20001 d_Text_valueOf_158 (by decide) ?_
            refine zj_icmp_le 199 d_Text_valueOf_161 rfl (fun _ => ?_) (fun _ => ?_)
            · refine zj_iinc (v := (x6 + 1)) [some (zr g (some this)), some (.int a1), some (zr g a2), some (.int x5), some (.int (x6 + 1)), some (.int v12)] d_Text_valueOf_199 rfl rfl (by decide) rfl rfl ?_
              refine zj_goto 31 d_Text_valueOf_202 rfl ?_
              refine zj_cut [some (zr g (some this)), some (.int a1), some (zr g a2), some (.int x5), some (.int (x6 + 1)), none] ⟨rfl, ⟨rfl, ⟨rfl, ⟨rfl, ⟨rfl, trivial⟩⟩⟩⟩⟩ ?_
              exact hr3 u4 x5 (x6 + 1)
            refine zj_iload_n d_Text_valueOf_164 rfl ?_
            refine zj_iconst 2 d_Text_valueOf_165 (by decide) ?_
            refine zj_icmp_lt 199 d_Text_valueOf_166 rfl (fun _ => ?_) (fun _ => ?_)
            · refine zj_iinc (v := (x6 + 1)) [some (zr g (some this)), some (.int a1), some (zr g a2), some (.int x5), some (.int (x6 + 1)), some (.int v12)] d_Text_valueOf_199 rfl rfl (by decide) rfl rfl ?_
              refine zj_goto 31 d_Text_valueOf_202 rfl ?_
              refine zj_cut [some (zr g (some this)), some (.int a1), some (zr g a2), some (.int x5), some (.int (x6 + 1)), none] ⟨rfl, ⟨rfl, ⟨rfl, ⟨rfl, ⟨rfl, trivial⟩⟩⟩⟩⟩ ?_
              exact hr3 u4 x5 (x6 + 1)
            refine zj_iinc (v := (x5 + (-1))) [some (zr g (some this)), some (.int a1), some (zr g a2), some (.int (x5 + (-1))), some (.int x6), some (.int v12)] d_Text_valueOf_169 rfl rfl (by decide) (by simp [zNL, zr_cat]) rfl ?_
            refine zj_aload_n d_Text_valueOf_172 rfl ?_
            refine zj_getR fl_Text_22 (fun _ _ _ _ => rfl) d_Text_valueOf_173 (fun v13 => ?_)
            refine zj_iload_n d_Text_valueOf_176 rfl ?_
            refine zj_iconst 1 d_Text_valueOf_177 (by decide) ?_
            refine zj_isub d_Text_valueOf_178 ?_
            refine zj_iload d_Text_valueOf_179 rfl ?_
            refine zj_aload_n d_Text_valueOf_181 rfl ?_
            refine zj_getR fl_Text_22 (fun _ _ _ _ => rfl) d_Text_valueOf_182 (fun v14 => ?_)
            refine zj_iload_n d_Text_valueOf_185 rfl ?_
            refine zj_iconst 1 d_Text_valueOf_186 (by decide) ?_
            refine zj_isub d_Text_valueOf_187 ?_
            refine zj_iaload d_Text_valueOf_188 (fun v15 => ?_)
            refine zj_aload_n d_Text_valueOf_189 rfl ?_
            refine zj_getR fl_Text_22 (fun _ _ _ _ => rfl) d_Text_valueOf_190 (fun v16 => ?_)
            refine zj_iload_n d_Text_valueOf_193 rfl ?_
            refine zj_iaload d_Text_valueOf_194 (fun v17 => ?_)
            refine zj_cSIp [.int v12, .int v15, .int v17] zm_S_Text_joined ml_Text_29 (fun _ h => B_Text_joined g (d) h) (Nat.le_refl _) ⟨Nat.zero_le _, Nat.zero_le _⟩ rfl rfl (by simp [zr_cat, zcI, zcJ]) d_Text_valueOf_195 (fun v18 => ?_)
            refine zj_iastore d_Text_valueOf_198 (fun u19 => ?_)
            refine zj_iinc (v := (x6 + 1)) [some (zr g (some this)), some (.int a1), some (zr g a2), some (.int (x5 + (-1))), some (.int (x6 + 1)), some (.int v12)] d_Text_valueOf_199 rfl rfl (by decide) rfl rfl ?_
            refine zj_goto 31 d_Text_valueOf_202 rfl ?_
            refine zj_cut [some (zr g (some this)), some (.int a1), some (zr g a2), some (.int (x5 + (-1))), some (.int (x6 + 1)), none] ⟨rfl, ⟨rfl, ⟨rfl, ⟨rfl, ⟨rfl, trivial⟩⟩⟩⟩⟩ ?_
            exact hr3 u19 (x5 + (-1)) (x6 + 1)
          refine zj_iload_n d_Text_valueOf_131 rfl ?_
          refine zj_iconst 1 d_Text_valueOf_132 (by decide) ?_
          refine zj_icmp_lt 156 d_Text_valueOf_133 rfl (fun _ => ?_) (fun _ => ?_)
          · refine zj_iload d_Text_valueOf_156 rfl ?_
            refine zj_sipush 20001 d_Text_valueOf_158 (by decide) ?_
            refine zj_icmp_le 199 d_Text_valueOf_161 rfl (fun _ => ?_) (fun _ => ?_)
            · refine zj_iinc (v := (x6 + 1)) [some (zr g (some this)), some (.int a1), some (zr g a2), some (.int x5), some (.int (x6 + 1)), some (.int v12)] d_Text_valueOf_199 rfl rfl (by decide) rfl rfl ?_
              refine zj_goto 31 d_Text_valueOf_202 rfl ?_
              refine zj_cut [some (zr g (some this)), some (.int a1), some (zr g a2), some (.int x5), some (.int (x6 + 1)), none] ⟨rfl, ⟨rfl, ⟨rfl, ⟨rfl, ⟨rfl, trivial⟩⟩⟩⟩⟩ ?_
              exact hr3 u4 x5 (x6 + 1)
            refine zj_iload_n d_Text_valueOf_164 rfl ?_
            refine zj_iconst 2 d_Text_valueOf_165 (by decide) ?_
            refine zj_icmp_lt 199 d_Text_valueOf_166 rfl (fun _ => ?_) (fun _ => ?_)
            · refine zj_iinc (v := (x6 + 1)) [some (zr g (some this)), some (.int a1), some (zr g a2), some (.int x5), some (.int (x6 + 1)), some (.int v12)] d_Text_valueOf_199 rfl rfl (by decide) rfl rfl ?_
              refine zj_goto 31 d_Text_valueOf_202 rfl ?_
              refine zj_cut [some (zr g (some this)), some (.int a1), some (zr g a2), some (.int x5), some (.int (x6 + 1)), none] ⟨rfl, ⟨rfl, ⟨rfl, ⟨rfl, ⟨rfl, trivial⟩⟩⟩⟩⟩ ?_
              exact hr3 u4 x5 (x6 + 1)
            refine zj_iinc (v := (x5 + (-1))) [some (zr g (some this)), some (.int a1), some (zr g a2), some (.int (x5 + (-1))), some (.int x6), some (.int v12)] d_Text_valueOf_169 rfl rfl (by decide) (by simp [zNL, zr_cat]) rfl ?_
            refine zj_aload_n d_Text_valueOf_172 rfl ?_
            refine zj_getR fl_Text_22 (fun _ _ _ _ => rfl) d_Text_valueOf_173 (fun v20 => ?_)
            refine zj_iload_n d_Text_valueOf_176 rfl ?_
            refine zj_iconst 1 d_Text_valueOf_177 (by decide) ?_
            refine zj_isub d_Text_valueOf_178 ?_
            refine zj_iload d_Text_valueOf_179 rfl ?_
            refine zj_aload_n d_Text_valueOf_181 rfl ?_
            refine zj_getR fl_Text_22 (fun _ _ _ _ => rfl) d_Text_valueOf_182 (fun v21 => ?_)
            refine zj_iload_n d_Text_valueOf_185 rfl ?_
            refine zj_iconst 1 d_Text_valueOf_186 (by decide) ?_
            refine zj_isub d_Text_valueOf_187 ?_
            refine zj_iaload d_Text_valueOf_188 (fun v22 => ?_)
            refine zj_aload_n d_Text_valueOf_189 rfl ?_
            refine zj_getR fl_Text_22 (fun _ _ _ _ => rfl) d_Text_valueOf_190 (fun v23 => ?_)
            refine zj_iload_n d_Text_valueOf_193 rfl ?_
            refine zj_iaload d_Text_valueOf_194 (fun v24 => ?_)
            refine zj_cSIp [.int v12, .int v22, .int v24] zm_S_Text_joined ml_Text_29 (fun _ h => B_Text_joined g (d) h) (Nat.le_refl _) ⟨Nat.zero_le _, Nat.zero_le _⟩ rfl rfl (by simp [zr_cat, zcI, zcJ]) d_Text_valueOf_195 (fun v25 => ?_)
            refine zj_iastore d_Text_valueOf_198 (fun u26 => ?_)
            refine zj_iinc (v := (x6 + 1)) [some (zr g (some this)), some (.int a1), some (zr g a2), some (.int (x5 + (-1))), some (.int (x6 + 1)), some (.int v12)] d_Text_valueOf_199 rfl rfl (by decide) rfl rfl ?_
            refine zj_goto 31 d_Text_valueOf_202 rfl ?_
            refine zj_cut [some (zr g (some this)), some (.int a1), some (zr g a2), some (.int (x5 + (-1))), some (.int (x6 + 1)), none] ⟨rfl, ⟨rfl, ⟨rfl, ⟨rfl, ⟨rfl, trivial⟩⟩⟩⟩⟩ ?_
            exact hr3 u26 (x5 + (-1)) (x6 + 1)
          refine zj_aload_n d_Text_valueOf_136 rfl ?_
          refine zj_getR fl_Text_22 (fun _ _ _ _ => rfl) d_Text_valueOf_137 (fun v27 => ?_)
          refine zj_iload_n d_Text_valueOf_140 rfl ?_
          refine zj_iconst 1 d_Text_valueOf_141 (by decide) ?_
          refine zj_isub d_Text_valueOf_142 ?_
          refine zj_aload_n d_Text_valueOf_143 rfl ?_
          refine zj_getR fl_Text_22 (fun _ _ _ _ => rfl) d_Text_valueOf_144 (fun v28 => ?_)
          refine zj_iload_n d_Text_valueOf_147 rfl ?_
          refine zj_iconst 1 d_Text_valueOf_148 (by decide) ?_
          refine zj_isub d_Text_valueOf_149 ?_
          refine zj_iaload d_Text_valueOf_150 (fun v29 => ?_)
          refine zj_ineg d_Text_valueOf_151 ?_
          refine zj_iastore d_Text_valueOf_152 (fun u30 => ?_)
          refine zj_goto 199 d_Text_valueOf_153 rfl ?_
          refine zj_iinc (v := (x6 + 1)) [some (zr g (some this)), some (.int a1), some (zr g a2), some (.int x5), some (.int (x6 + 1)), some (.int v12)] d_Text_valueOf_199 rfl rfl (by decide) rfl rfl ?_
          refine zj_goto 31 d_Text_valueOf_202 rfl ?_
          refine zj_cut [some (zr g (some this)), some (.int a1), some (zr g a2), some (.int x5), some (.int (x6 + 1)), none] ⟨rfl, ⟨rfl, ⟨rfl, ⟨rfl, ⟨rfl, trivial⟩⟩⟩⟩⟩ ?_
          exact hr3 u30 x5 (x6 + 1)
        refine zj_iload_n d_Text_valueOf_91 rfl ?_
        refine zj_iconst 1 d_Text_valueOf_92 (by decide) ?_
        refine zj_icmp_lt 123 d_Text_valueOf_93 rfl (fun _ => ?_) (fun _ => ?_)
        · refine zj_iload d_Text_valueOf_123 rfl ?_
          refine zj_sipush 20001 d_Text_valueOf_125 (by decide) ?_
          refine zj_icmp_ne 156 d_Text_valueOf_128 rfl (fun _ => ?_) (fun _ => ?_)
          · refine zj_iload d_Text_valueOf_156 rfl ?_
            refine zj_sipush 20001 d_Text_valueOf_158 (by decide) ?_
            refine zj_icmp_le 199 d_Text_valueOf_161 rfl (fun _ => ?_) (fun _ => ?_)
            · refine zj_iinc (v := (x6 + 1)) [some (zr g (some this)), some (.int a1), some (zr g a2), some (.int x5), some (.int (x6 + 1)), some (.int v12)] d_Text_valueOf_199 rfl rfl (by decide) rfl rfl ?_
              refine zj_goto 31 d_Text_valueOf_202 rfl ?_
              refine zj_cut [some (zr g (some this)), some (.int a1), some (zr g a2), some (.int x5), some (.int (x6 + 1)), none] ⟨rfl, ⟨rfl, ⟨rfl, ⟨rfl, ⟨rfl, trivial⟩⟩⟩⟩⟩ ?_
              exact hr3 u4 x5 (x6 + 1)
            refine zj_iload_n d_Text_valueOf_164 rfl ?_
            refine zj_iconst 2 d_Text_valueOf_165 (by decide) ?_
            refine zj_icmp_lt 199 d_Text_valueOf_166 rfl (fun _ => ?_) (fun _ => ?_)
            · refine zj_iinc (v := (x6 + 1)) [some (zr g (some this)), some (.int a1), some (zr g a2), some (.int x5), some (.int (x6 + 1)), some (.int v12)] d_Text_valueOf_199 rfl rfl (by decide) rfl rfl ?_
              refine zj_goto 31 d_Text_valueOf_202 rfl ?_
              refine zj_cut [some (zr g (some this)), some (.int a1), some (zr g a2), some (.int x5), some (.int (x6 + 1)), none] ⟨rfl, ⟨rfl, ⟨rfl, ⟨rfl, ⟨rfl, trivial⟩⟩⟩⟩⟩ ?_
              exact hr3 u4 x5 (x6 + 1)
            refine zj_iinc (v := (x5 + (-1))) [some (zr g (some this)), some (.int a1), some (zr g a2), some (.int (x5 + (-1))), some (.int x6), some (.int v12)] d_Text_valueOf_169 rfl rfl (by decide) (by simp [zNL, zr_cat]) rfl ?_
            refine zj_aload_n d_Text_valueOf_172 rfl ?_
            refine zj_getR fl_Text_22 (fun _ _ _ _ => rfl) d_Text_valueOf_173 (fun v31 => ?_)
            refine zj_iload_n d_Text_valueOf_176 rfl ?_
            refine zj_iconst 1 d_Text_valueOf_177 (by decide) ?_
            refine zj_isub d_Text_valueOf_178 ?_
            refine zj_iload d_Text_valueOf_179 rfl ?_
            refine zj_aload_n d_Text_valueOf_181 rfl ?_
            refine zj_getR fl_Text_22 (fun _ _ _ _ => rfl) d_Text_valueOf_182 (fun v32 => ?_)
            refine zj_iload_n d_Text_valueOf_185 rfl ?_
            refine zj_iconst 1 d_Text_valueOf_186 (by decide) ?_
            refine zj_isub d_Text_valueOf_187 ?_
            refine zj_iaload d_Text_valueOf_188 (fun v33 => ?_)
            refine zj_aload_n d_Text_valueOf_189 rfl ?_
            refine zj_getR fl_Text_22 (fun _ _ _ _ => rfl) d_Text_valueOf_190 (fun v34 => ?_)
            refine zj_iload_n d_Text_valueOf_193 rfl ?_
            refine zj_iaload d_Text_valueOf_194 (fun v35 => ?_)
            refine zj_cSIp [.int v12, .int v33, .int v35] zm_S_Text_joined ml_Text_29 (fun _ h => B_Text_joined g (d) h) (Nat.le_refl _) ⟨Nat.zero_le _, Nat.zero_le _⟩ rfl rfl (by simp [zr_cat, zcI, zcJ]) d_Text_valueOf_195 (fun v36 => ?_)
            refine zj_iastore d_Text_valueOf_198 (fun u37 => ?_)
            refine zj_iinc (v := (x6 + 1)) [some (zr g (some this)), some (.int a1), some (zr g a2), some (.int (x5 + (-1))), some (.int (x6 + 1)), some (.int v12)] d_Text_valueOf_199 rfl rfl (by decide) rfl rfl ?_
            refine zj_goto 31 d_Text_valueOf_202 rfl ?_
            refine zj_cut [some (zr g (some this)), some (.int a1), some (zr g a2), some (.int (x5 + (-1))), some (.int (x6 + 1)), none] ⟨rfl, ⟨rfl, ⟨rfl, ⟨rfl, ⟨rfl, trivial⟩⟩⟩⟩⟩ ?_
            exact hr3 u37 (x5 + (-1)) (x6 + 1)
          refine zj_iload_n d_Text_valueOf_131 rfl ?_
          refine zj_iconst 1 d_Text_valueOf_132 (by decide) ?_
          refine zj_icmp_lt 156 d_Text_valueOf_133 rfl (fun _ => ?_) (fun _ => ?_)
          · refine zj_iload d_Text_valueOf_156 rfl ?_
            refine zj_sipush 20001 d_Text_valueOf_158 (by decide) ?_
            refine zj_icmp_le 199 d_Text_valueOf_161 rfl (fun _ => ?_) (fun _ => ?_)
            · refine zj_iinc (v := (x6 + 1)) [some (zr g (some this)), some (.int a1), some (zr g a2), some (.int x5), some (.int (x6 + 1)), some (.int v12)] d_Text_valueOf_199 rfl rfl (by decide) rfl rfl ?_
              refine zj_goto 31 d_Text_valueOf_202 rfl ?_
              refine zj_cut [some (zr g (some this)), some (.int a1), some (zr g a2), some (.int x5), some (.int (x6 + 1)), none] ⟨rfl, ⟨rfl, ⟨rfl, ⟨rfl, ⟨rfl, trivial⟩⟩⟩⟩⟩ ?_
              exact hr3 u4 x5 (x6 + 1)
            refine zj_iload_n d_Text_valueOf_164 rfl ?_
            refine zj_iconst 2 d_Text_valueOf_165 (by decide) ?_
            refine zj_icmp_lt 199 d_Text_valueOf_166 rfl (fun _ => ?_) (fun _ => ?_)
            · refine zj_iinc (v := (x6 + 1)) [some (zr g (some this)), some (.int a1), some (zr g a2), some (.int x5), some (.int (x6 + 1)), some (.int v12)] d_Text_valueOf_199 rfl rfl (by decide) rfl rfl ?_
              refine zj_goto 31 d_Text_valueOf_202 rfl ?_
              refine zj_cut [some (zr g (some this)), some (.int a1), some (zr g a2), some (.int x5), some (.int (x6 + 1)), none] ⟨rfl, ⟨rfl, ⟨rfl, ⟨rfl, ⟨rfl, trivial⟩⟩⟩⟩⟩ ?_
              exact hr3 u4 x5 (x6 + 1)
            refine zj_iinc (v := (x5 + (-1))) [some (zr g (some this)), some (.int a1), some (zr g a2), some (.int (x5 + (-1))), some (.int x6), some (.int v12)] d_Text_valueOf_169 rfl rfl (by decide) (by simp [zNL, zr_cat]) rfl ?_
            refine zj_aload_n d_Text_valueOf_172 rfl ?_
            refine zj_getR fl_Text_22 (fun _ _ _ _ => rfl) d_Text_valueOf_173 (fun v38 => ?_)
            refine zj_iload_n d_Text_valueOf_176 rfl ?_
            refine zj_iconst 1 d_Text_valueOf_177 (by decide) ?_
            refine zj_isub d_Text_valueOf_178 ?_
            refine zj_iload d_Text_valueOf_179 rfl ?_
            refine zj_aload_n d_Text_valueOf_181 rfl ?_
            refine zj_getR fl_Text_22 (fun _ _ _ _ => rfl) d_Text_valueOf_182 (fun v39 => ?_)
            refine zj_iload_n d_Text_valueOf_185 rfl ?_
            refine zj_iconst 1 d_Text_valueOf_186 (by decide) ?_
            refine zj_isub d_Text_valueOf_187 ?_
            refine zj_iaload d_Text_valueOf_188 (fun v40 => ?_)
            refine zj_aload_n d_Text_valueOf_189 rfl ?_
            refine zj_getR fl_Text_22 (fun _ _ _ _ => rfl) d_Text_valueOf_190 (fun v41 => ?_)
            refine zj_iload_n d_Text_valueOf_193 rfl ?_
            refine zj_iaload d_Text_valueOf_194 (fun v42 => ?_)
            refine zj_cSIp [.int v12, .int v40, .int v42] zm_S_Text_joined ml_Text_29 (fun _ h => B_Text_joined g (d) h) (Nat.le_refl _) ⟨Nat.zero_le _, Nat.zero_le _⟩ rfl rfl (by simp [zr_cat, zcI, zcJ]) d_Text_valueOf_195 (fun v43 => ?_)
            refine zj_iastore d_Text_valueOf_198 (fun u44 => ?_)
            refine zj_iinc (v := (x6 + 1)) [some (zr g (some this)), some (.int a1), some (zr g a2), some (.int (x5 + (-1))), some (.int (x6 + 1)), some (.int v12)] d_Text_valueOf_199 rfl rfl (by decide) rfl rfl ?_
            refine zj_goto 31 d_Text_valueOf_202 rfl ?_
            refine zj_cut [some (zr g (some this)), some (.int a1), some (zr g a2), some (.int (x5 + (-1))), some (.int (x6 + 1)), none] ⟨rfl, ⟨rfl, ⟨rfl, ⟨rfl, ⟨rfl, trivial⟩⟩⟩⟩⟩ ?_
            exact hr3 u44 (x5 + (-1)) (x6 + 1)
          refine zj_aload_n d_Text_valueOf_136 rfl ?_
          refine zj_getR fl_Text_22 (fun _ _ _ _ => rfl) d_Text_valueOf_137 (fun v45 => ?_)
          refine zj_iload_n d_Text_valueOf_140 rfl ?_
          refine zj_iconst 1 d_Text_valueOf_141 (by decide) ?_
          refine zj_isub d_Text_valueOf_142 ?_
          refine zj_aload_n d_Text_valueOf_143 rfl ?_
          refine zj_getR fl_Text_22 (fun _ _ _ _ => rfl) d_Text_valueOf_144 (fun v46 => ?_)
          refine zj_iload_n d_Text_valueOf_147 rfl ?_
          refine zj_iconst 1 d_Text_valueOf_148 (by decide) ?_
          refine zj_isub d_Text_valueOf_149 ?_
          refine zj_iaload d_Text_valueOf_150 (fun v47 => ?_)
          refine zj_ineg d_Text_valueOf_151 ?_
          refine zj_iastore d_Text_valueOf_152 (fun u48 => ?_)
          refine zj_goto 199 d_Text_valueOf_153 rfl ?_
          refine zj_iinc (v := (x6 + 1)) [some (zr g (some this)), some (.int a1), some (zr g a2), some (.int x5), some (.int (x6 + 1)), some (.int v12)] d_Text_valueOf_199 rfl rfl (by decide) rfl rfl ?_
          refine zj_goto 31 d_Text_valueOf_202 rfl ?_
          refine zj_cut [some (zr g (some this)), some (.int a1), some (zr g a2), some (.int x5), some (.int (x6 + 1)), none] ⟨rfl, ⟨rfl, ⟨rfl, ⟨rfl, ⟨rfl, trivial⟩⟩⟩⟩⟩ ?_
          exact hr3 u48 x5 (x6 + 1)
        refine zj_aload_n d_Text_valueOf_96 rfl ?_
        refine zj_getR fl_Text_22 (fun _ _ _ _ => rfl) d_Text_valueOf_97 (fun v49 => ?_)
        refine zj_iload_n d_Text_valueOf_100 rfl ?_
        refine zj_iconst 1 d_Text_valueOf_101 (by decide) ?_
        refine zj_isub d_Text_valueOf_102 ?_
        refine zj_aload_n d_Text_valueOf_103 rfl ?_
        refine zj_getR fl_Text_22 (fun _ _ _ _ => rfl) d_Text_valueOf_104 (fun v50 => ?_)
        refine zj_iload_n d_Text_valueOf_107 rfl ?_
        refine zj_iconst 1 d_Text_valueOf_108 (by decide) ?_
        refine zj_isub d_Text_valueOf_109 ?_
        refine zj_iaload d_Text_valueOf_110 (fun v51 => ?_)
        refine zj_if_ne 118 d_Text_valueOf_111 rfl (fun _ => ?_) (fun _ => ?_)
        · refine zj_iconst 0 d_Text_valueOf_118 (by decide) ?_
          refine zj_iastore d_Text_valueOf_119 (fun u52 => ?_)
          refine zj_goto 199 d_Text_valueOf_120 rfl ?_
          refine zj_iinc (v := (x6 + 1)) [some (zr g (some this)), some (.int a1), some (zr g a2), some (.int x5), some (.int (x6 + 1)), some (.int v12)] d_Text_valueOf_199 rfl rfl (by decide) rfl rfl ?_
          refine zj_goto 31 d_Text_valueOf_202 rfl ?_
          refine zj_cut [some (zr g (some this)), some (.int a1), some (zr g a2), some (.int x5), some (.int (x6 + 1)), none] ⟨rfl, ⟨rfl, ⟨rfl, ⟨rfl, ⟨rfl, trivial⟩⟩⟩⟩⟩ ?_
          exact hr3 u52 x5 (x6 + 1)
        refine zj_iconst 1 d_Text_valueOf_114 (by decide) ?_
        refine zj_goto 119 d_Text_valueOf_115 rfl ?_
        refine zj_iastore d_Text_valueOf_119 (fun u53 => ?_)
        refine zj_goto 199 d_Text_valueOf_120 rfl ?_
        refine zj_iinc (v := (x6 + 1)) [some (zr g (some this)), some (.int a1), some (zr g a2), some (.int x5), some (.int (x6 + 1)), some (.int v12)] d_Text_valueOf_199 rfl rfl (by decide) rfl rfl ?_
        refine zj_goto 31 d_Text_valueOf_202 rfl ?_
        refine zj_cut [some (zr g (some this)), some (.int a1), some (zr g a2), some (.int x5), some (.int (x6 + 1)), none] ⟨rfl, ⟨rfl, ⟨rfl, ⟨rfl, ⟨rfl, trivial⟩⟩⟩⟩⟩ ?_
        exact hr3 u53 x5 (x6 + 1)
      refine zj_iload_n d_Text_valueOf_59 rfl ?_
      refine zj_bipush 40 d_Text_valueOf_60 (by decide) ?_
      refine zj_icmp_ge 83 d_Text_valueOf_62 rfl (fun _ => ?_) (fun _ => ?_)
      · refine zj_iload d_Text_valueOf_83 rfl ?_
        refine zj_sipush 20000 d_Text_valueOf_85 (by decide) ?_
        refine zj_icmp_ne 123 d_Text_valueOf_88 rfl (fun _ => ?_) (fun _ => ?_)
        · refine zj_iload d_Text_valueOf_123 rfl ?_
          refine zj_sipush 20001 d_Text_valueOf_125 (by decide) ?_
          refine zj_icmp_ne 156 d_Text_valueOf_128 rfl (fun _ => ?_) (fun _ => ?_)
          · refine zj_iload d_Text_valueOf_156 rfl ?_
            refine zj_sipush 20001 d_Text_valueOf_158 (by decide) ?_
            refine zj_icmp_le 199 d_Text_valueOf_161 rfl (fun _ => ?_) (fun _ => ?_)
            · refine zj_iinc (v := (x6 + 1)) [some (zr g (some this)), some (.int a1), some (zr g a2), some (.int x5), some (.int (x6 + 1)), some (.int v12)] d_Text_valueOf_199 rfl rfl (by decide) rfl rfl ?_
              refine zj_goto 31 d_Text_valueOf_202 rfl ?_
              refine zj_cut [some (zr g (some this)), some (.int a1), some (zr g a2), some (.int x5), some (.int (x6 + 1)), none] ⟨rfl, ⟨rfl, ⟨rfl, ⟨rfl, ⟨rfl, trivial⟩⟩⟩⟩⟩ ?_
              exact hr3 u4 x5 (x6 + 1)
            refine zj_iload_n d_Text_valueOf_164 rfl ?_
            refine zj_iconst 2 d_Text_valueOf_165 (by decide) ?_
            refine zj_icmp_lt 199 d_Text_valueOf_166 rfl (fun _ => ?_) (fun _ => ?_)
            · refine zj_iinc (v := (x6 + 1)) [some (zr g (some this)), some (.int a1), some (zr g a2), some (.int x5), some (.int (x6 + 1)), some (.int v12)] d_Text_valueOf_199 rfl rfl (by decide) rfl rfl ?_
              refine zj_goto 31 d_Text_valueOf_202 rfl ?_
              refine zj_cut [some (zr g (some this)), some (.int a1), some (zr g a2), some (.int x5), some (.int (x6 + 1)), none] ⟨rfl, ⟨rfl, ⟨rfl, ⟨rfl, ⟨rfl, trivial⟩⟩⟩⟩⟩ ?_
              exact hr3 u4 x5 (x6 + 1)
            refine zj_iinc (v := (x5 + (-1))) [some (zr g (some this)), some (.int a1), some (zr g a2), some (.int (x5 + (-1))), some (.int x6), some (.int v12)] d_Text_valueOf_169 rfl rfl (by decide) (by simp [zNL, zr_cat]) rfl ?_
            refine zj_aload_n d_Text_valueOf_172 rfl ?_
            refine zj_getR fl_Text_22 (fun _ _ _ _ => rfl) d_Text_valueOf_173 (fun v54 => ?_)
            refine zj_iload_n d_Text_valueOf_176 rfl ?_
            refine zj_iconst 1 d_Text_valueOf_177 (by decide) ?_
            refine zj_isub d_Text_valueOf_178 ?_
            refine zj_iload d_Text_valueOf_179 rfl ?_
            refine zj_aload_n d_Text_valueOf_181 rfl ?_
            refine zj_getR fl_Text_22 (fun _ _ _ _ => rfl) d_Text_valueOf_182 (fun v55 => ?_)
            refine zj_iload_n d_Text_valueOf_185 rfl ?_
            refine zj_iconst 1 d_Text_valueOf_186 (by decide) ?_
            refine zj_isub d_Text_valueOf_187 ?_
            refine zj_iaload d_Text_valueOf_188 (fun v56 => ?_)
            refine zj_aload_n d_Text_valueOf_189 rfl ?_
            refine zj_getR fl_Text_22 (fun _ _ _ _ => rfl) d_Text_valueOf_190 (fun v57 => ?_)
            refine zj_iload_n d_Text_valueOf_193 rfl ?_
            refine zj_iaload d_Text_valueOf_194 (fun v58 => ?_)
            refine zj_cSIp [.int v12, .int v56, .int v58] zm_S_Text_joined ml_Text_29 (fun _ h => B_Text_joined g (d) h) (Nat.le_refl _) ⟨Nat.zero_le _, Nat.zero_le _⟩ rfl rfl (by simp [zr_cat, zcI, zcJ]) d_Text_valueOf_195 (fun v59 => ?_)
            refine zj_iastore d_Text_valueOf_198 (fun u60 => ?_)
            refine zj_iinc (v := (x6 + 1)) [some (zr g (some this)), some (.int a1), some (zr g a2), some (.int (x5 + (-1))), some (.int (x6 + 1)), some (.int v12)] d_Text_valueOf_199 rfl rfl (by decide) rfl rfl ?_
            refine zj_goto 31 d_Text_valueOf_202 rfl ?_
            refine zj_cut [some (zr g (some this)), some (.int a1), some (zr g a2), some (.int (x5 + (-1))), some (.int (x6 + 1)), none] ⟨rfl, ⟨rfl, ⟨rfl, ⟨rfl, ⟨rfl, trivial⟩⟩⟩⟩⟩ ?_
            exact hr3 u60 (x5 + (-1)) (x6 + 1)
          refine zj_iload_n d_Text_valueOf_131 rfl ?_
          refine zj_iconst 1 d_Text_valueOf_132 (by decide) ?_
          refine zj_icmp_lt 156 d_Text_valueOf_133 rfl (fun _ => ?_) (fun _ => ?_)
          · refine zj_iload d_Text_valueOf_156 rfl ?_
            refine zj_sipush 20001 d_Text_valueOf_158 (by decide) ?_
            refine zj_icmp_le 199 d_Text_valueOf_161 rfl (fun _ => ?_) (fun _ => ?_)
            · refine zj_iinc (v := (x6 + 1)) [some (zr g (some this)), some (.int a1), some (zr g a2), some (.int x5), some (.int (x6 + 1)), some (.int v12)] d_Text_valueOf_199 rfl rfl (by decide) rfl rfl ?_
              refine zj_goto 31 d_Text_valueOf_202 rfl ?_
              refine zj_cut [some (zr g (some this)), some (.int a1), some (zr g a2), some (.int x5), some (.int (x6 + 1)), none] ⟨rfl, ⟨rfl, ⟨rfl, ⟨rfl, ⟨rfl, trivial⟩⟩⟩⟩⟩ ?_
              exact hr3 u4 x5 (x6 + 1)
            refine zj_iload_n d_Text_valueOf_164 rfl ?_
            refine zj_iconst 2 d_Text_valueOf_165 (by decide) ?_
            refine zj_icmp_lt 199 d_Text_valueOf_166 rfl (fun _ => ?_) (fun _ => ?_)
            · refine zj_iinc (v := (x6 + 1)) [some (zr g (some this)), some (.int a1), some (zr g a2), some (.int x5), some (.int (x6 + 1)), some (.int v12)] d_Text_valueOf_199 rfl rfl (by decide) rfl rfl ?_
              refine zj_goto 31 d_Text_valueOf_202 rfl ?_
              refine zj_cut [some (zr g (some this)), some (.int a1), some (zr g a2), some (.int x5), some (.int (x6 + 1)), none] ⟨rfl, ⟨rfl, ⟨rfl, ⟨rfl, ⟨rfl, trivial⟩⟩⟩⟩⟩ ?_
              exact hr3 u4 x5 (x6 + 1)
            refine zj_iinc (v := (x5 + (-1))) [some (zr g (some this)), some (.int a1), some (zr g a2), some (.int (x5 + (-1))), some (.int x6), some (.int v12)] d_Text_valueOf_169 rfl rfl (by decide) (by simp [zNL, zr_cat]) rfl ?_
            refine zj_aload_n d_Text_valueOf_172 rfl ?_
            refine zj_getR fl_Text_22 (fun _ _ _ _ => rfl) d_Text_valueOf_173 (fun v61 => ?_)
            refine zj_iload_n d_Text_valueOf_176 rfl ?_
            refine zj_iconst 1 d_Text_valueOf_177 (by decide) ?_
            refine zj_isub d_Text_valueOf_178 ?_
            refine zj_iload d_Text_valueOf_179 rfl ?_
            refine zj_aload_n d_Text_valueOf_181 rfl ?_
            refine zj_getR fl_Text_22 (fun _ _ _ _ => rfl) d_Text_valueOf_182 (fun v62 => ?_)
            refine zj_iload_n d_Text_valueOf_185 rfl ?_
            refine zj_iconst 1 d_Text_valueOf_186 (by decide) ?_
            refine zj_isub d_Text_valueOf_187 ?_
            refine zj_iaload d_Text_valueOf_188 (fun v63 => ?_)
            refine zj_aload_n d_Text_valueOf_189 rfl ?_
            refine zj_getR fl_Text_22 (fun _ _ _ _ => rfl) d_Text_valueOf_190 (fun v64 => ?_)
            refine zj_iload_n d_Text_valueOf_193 rfl ?_
            refine zj_iaload d_Text_valueOf_194 (fun v65 => ?_)
            refine zj_cSIp [.int v12, .int v63, .int v65] zm_S_Text_joined ml_Text_29 (fun _ h => B_Text_joined g (d) h) (Nat.le_refl _) ⟨Nat.zero_le _, Nat.zero_le _⟩ rfl rfl (by simp [zr_cat, zcI, zcJ]) d_Text_valueOf_195 (fun v66 => ?_)
            refine zj_iastore d_Text_valueOf_198 (fun u67 => ?_)
            refine zj_iinc (v := (x6 + 1)) [some (zr g (some this)), some (.int a1), some (zr g a2), some (.int (x5 + (-1))), some (.int (x6 + 1)), some (.int v12)] d_Text_valueOf_199 rfl rfl (by decide) rfl rfl ?_
            refine zj_goto 31 d_Text_valueOf_202 rfl ?_
            refine zj_cut [some (zr g (some this)), some (.int a1), some (zr g a2), some (.int (x5 + (-1))), some (.int (x6 + 1)), none] ⟨rfl, ⟨rfl, ⟨rfl, ⟨rfl, ⟨rfl, trivial⟩⟩⟩⟩⟩ ?_
            exact hr3 u67 (x5 + (-1)) (x6 + 1)
          refine zj_aload_n d_Text_valueOf_136 rfl ?_
          refine zj_getR fl_Text_22 (fun _ _ _ _ => rfl) d_Text_valueOf_137 (fun v68 => ?_)
          refine zj_iload_n d_Text_valueOf_140 rfl ?_
          refine zj_iconst 1 d_Text_valueOf_141 (by decide) ?_
          refine zj_isub d_Text_valueOf_142 ?_
          refine zj_aload_n d_Text_valueOf_143 rfl ?_
          refine zj_getR fl_Text_22 (fun _ _ _ _ => rfl) d_Text_valueOf_144 (fun v69 => ?_)
          refine zj_iload_n d_Text_valueOf_147 rfl ?_
          refine zj_iconst 1 d_Text_valueOf_148 (by decide) ?_
          refine zj_isub d_Text_valueOf_149 ?_
          refine zj_iaload d_Text_valueOf_150 (fun v70 => ?_)
          refine zj_ineg d_Text_valueOf_151 ?_
          refine zj_iastore d_Text_valueOf_152 (fun u71 => ?_)
          refine zj_goto 199 d_Text_valueOf_153 rfl ?_
          refine zj_iinc (v := (x6 + 1)) [some (zr g (some this)), some (.int a1), some (zr g a2), some (.int x5), some (.int (x6 + 1)), some (.int v12)] d_Text_valueOf_199 rfl rfl (by decide) rfl rfl ?_
          refine zj_goto 31 d_Text_valueOf_202 rfl ?_
          refine zj_cut [some (zr g (some this)), some (.int a1), some (zr g a2), some (.int x5), some (.int (x6 + 1)), none] ⟨rfl, ⟨rfl, ⟨rfl, ⟨rfl, ⟨rfl, trivial⟩⟩⟩⟩⟩ ?_
          exact hr3 u71 x5 (x6 + 1)
        refine zj_iload_n d_Text_valueOf_91 rfl ?_
        refine zj_iconst 1 d_Text_valueOf_92 (by decide) ?_
        refine zj_icmp_lt 123 d_Text_valueOf_93 rfl (fun _ => ?_) (fun _ => ?_)
        · refine zj_iload d_Text_valueOf_123 rfl ?_
          refine zj_sipush 20001 d_Text_valueOf_125 (by decide) ?_
          refine zj_icmp_ne 156 d_Text_valueOf_128 rfl (fun _ => ?_) (fun _ => ?_)
          · refine zj_iload d_Text_valueOf_156 rfl ?_
            refine zj_sipush 20001 d_Text_valueOf_158 (by decide) ?_
            refine zj_icmp_le 199 d_Text_valueOf_161 rfl (fun _ => ?_) (fun _ => ?_)
            · refine zj_iinc (v := (x6 + 1)) [some (zr g (some this)), some (.int a1), some (zr g a2), some (.int x5), some (.int (x6 + 1)), some (.int v12)] d_Text_valueOf_199 rfl rfl (by decide) rfl rfl ?_
              refine zj_goto 31 d_Text_valueOf_202 rfl ?_
              refine zj_cut [some (zr g (some this)), some (.int a1), some (zr g a2), some (.int x5), some (.int (x6 + 1)), none] ⟨rfl, ⟨rfl, ⟨rfl, ⟨rfl, ⟨rfl, trivial⟩⟩⟩⟩⟩ ?_
              exact hr3 u4 x5 (x6 + 1)
            refine zj_iload_n d_Text_valueOf_164 rfl ?_
            refine zj_iconst 2 d_Text_valueOf_165 (by decide) ?_
            refine zj_icmp_lt 199 d_Text_valueOf_166 rfl (fun _ => ?_) (fun _ => ?_)
            · refine zj_iinc (v := (x6 + 1)) [some (zr g (some this)), some (.int a1), some (zr g a2), some (.int x5), some (.int (x6 + 1)), some (.int v12)] d_Text_valueOf_199 rfl rfl (by decide) rfl rfl ?_
              refine zj_goto 31 d_Text_valueOf_202 rfl ?_
              refine zj_cut [some (zr g (some this)), some (.int a1), some (zr g a2), some (.int x5), some (.int (x6 + 1)), none] ⟨rfl, ⟨rfl, ⟨rfl, ⟨rfl, ⟨rfl, trivial⟩⟩⟩⟩⟩ ?_
              exact hr3 u4 x5 (x6 + 1)
            refine zj_iinc (v := (x5 + (-1))) [some (zr g (some this)), some (.int a1), some (zr g a2), some (.int (x5 + (-1))), some (.int x6), some (.int v12)] d_Text_valueOf_169 rfl rfl (by decide) (by simp [zNL, zr_cat]) rfl ?_
            refine zj_aload_n d_Text_valueOf_172 rfl ?_
            refine zj_getR fl_Text_22 (fun _ _ _ _ => rfl) d_Text_valueOf_173 (fun v72 => ?_)
            refine zj_iload_n d_Text_valueOf_176 rfl ?_
            refine zj_iconst 1 d_Text_valueOf_177 (by decide) ?_
            refine zj_isub d_Text_valueOf_178 ?_
            refine zj_iload d_Text_valueOf_179 rfl ?_
            refine zj_aload_n d_Text_valueOf_181 rfl ?_
            refine zj_getR fl_Text_22 (fun _ _ _ _ => rfl) d_Text_valueOf_182 (fun v73 => ?_)
            refine zj_iload_n d_Text_valueOf_185 rfl ?_
            refine zj_iconst 1 d_Text_valueOf_186 (by decide) ?_
            refine zj_isub d_Text_valueOf_187 ?_
            refine zj_iaload d_Text_valueOf_188 (fun v74 => ?_)
            refine zj_aload_n d_Text_valueOf_189 rfl ?_
            refine zj_getR fl_Text_22 (fun _ _ _ _ => rfl) d_Text_valueOf_190 (fun v75 => ?_)
            refine zj_iload_n d_Text_valueOf_193 rfl ?_
            refine zj_iaload d_Text_valueOf_194 (fun v76 => ?_)
            refine zj_cSIp [.int v12, .int v74, .int v76] zm_S_Text_joined ml_Text_29 (fun _ h => B_Text_joined g (d) h) (Nat.le_refl _) ⟨Nat.zero_le _, Nat.zero_le _⟩ rfl rfl (by simp [zr_cat, zcI, zcJ]) d_Text_valueOf_195 (fun v77 => ?_)
            refine zj_iastore d_Text_valueOf_198 (fun u78 => ?_)
            refine zj_iinc (v := (x6 + 1)) [some (zr g (some this)), some (.int a1), some (zr g a2), some (.int (x5 + (-1))), some (.int (x6 + 1)), some (.int v12)] d_Text_valueOf_199 rfl rfl (by decide) rfl rfl ?_
            refine zj_goto 31 d_Text_valueOf_202 rfl ?_
            refine zj_cut [some (zr g (some this)), some (.int a1), some (zr g a2), some (.int (x5 + (-1))), some (.int (x6 + 1)), none] ⟨rfl, ⟨rfl, ⟨rfl, ⟨rfl, ⟨rfl, trivial⟩⟩⟩⟩⟩ ?_
            exact hr3 u78 (x5 + (-1)) (x6 + 1)
          refine zj_iload_n d_Text_valueOf_131 rfl ?_
          refine zj_iconst 1 d_Text_valueOf_132 (by decide) ?_
          refine zj_icmp_lt 156 d_Text_valueOf_133 rfl (fun _ => ?_) (fun _ => ?_)
          · refine zj_iload d_Text_valueOf_156 rfl ?_
            refine zj_sipush 20001 d_Text_valueOf_158 (by decide) ?_
            refine zj_icmp_le 199 d_Text_valueOf_161 rfl (fun _ => ?_) (fun _ => ?_)
            · refine zj_iinc (v := (x6 + 1)) [some (zr g (some this)), some (.int a1), some (zr g a2), some (.int x5), some (.int (x6 + 1)), some (.int v12)] d_Text_valueOf_199 rfl rfl (by decide) rfl rfl ?_
              refine zj_goto 31 d_Text_valueOf_202 rfl ?_
              refine zj_cut [some (zr g (some this)), some (.int a1), some (zr g a2), some (.int x5), some (.int (x6 + 1)), none] ⟨rfl, ⟨rfl, ⟨rfl, ⟨rfl, ⟨rfl, trivial⟩⟩⟩⟩⟩ ?_
              exact hr3 u4 x5 (x6 + 1)
            refine zj_iload_n d_Text_valueOf_164 rfl ?_
            refine zj_iconst 2 d_Text_valueOf_165 (by decide) ?_
            refine zj_icmp_lt 199 d_Text_valueOf_166 rfl (fun _ => ?_) (fun _ => ?_)
            · refine zj_iinc (v := (x6 + 1)) [some (zr g (some this)), some (.int a1), some (zr g a2), some (.int x5), some (.int (x6 + 1)), some (.int v12)] d_Text_valueOf_199 rfl rfl (by decide) rfl rfl ?_
              refine zj_goto 31 d_Text_valueOf_202 rfl ?_
              refine zj_cut [some (zr g (some this)), some (.int a1), some (zr g a2), some (.int x5), some (.int (x6 + 1)), none] ⟨rfl, ⟨rfl, ⟨rfl, ⟨rfl, ⟨rfl, trivial⟩⟩⟩⟩⟩ ?_
              exact hr3 u4 x5 (x6 + 1)
            refine zj_iinc (v := (x5 + (-1))) [some (zr g (some this)), some (.int a1), some (zr g a2), some (.int (x5 + (-1))), some (.int x6), some (.int v12)] d_Text_valueOf_169 rfl rfl (by decide) (by simp [zNL, zr_cat]) rfl ?_
            refine zj_aload_n d_Text_valueOf_172 rfl ?_
            refine zj_getR fl_Text_22 (fun _ _ _ _ => rfl) d_Text_valueOf_173 (fun v79 => ?_)
            refine zj_iload_n d_Text_valueOf_176 rfl ?_
            refine zj_iconst 1 d_Text_valueOf_177 (by decide) ?_
            refine zj_isub d_Text_valueOf_178 ?_
            refine zj_iload d_Text_valueOf_179 rfl ?_
            refine zj_aload_n d_Text_valueOf_181 rfl ?_
            refine zj_getR fl_Text_22 (fun _ _ _ _ => rfl) d_Text_valueOf_182 (fun v80 => ?_)
            refine zj_iload_n d_Text_valueOf_185 rfl ?_
            refine zj_iconst 1 d_Text_valueOf_186 (by decide) ?_
            refine zj_isub d_Text_valueOf_187 ?_
            refine zj_iaload d_Text_valueOf_188 (fun v81 => ?_)
            refine zj_aload_n d_Text_valueOf_189 rfl ?_
            refine zj_getR fl_Text_22 (fun _ _ _ _ => rfl) d_Text_valueOf_190 (fun v82 => ?_)
            refine zj_iload_n d_Text_valueOf_193 rfl ?_
            refine zj_iaload d_Text_valueOf_194 (fun v83 => ?_)
            refine zj_cSIp [.int v12, .int v81, .int v83] zm_S_Text_joined ml_Text_29 (fun _ h => B_Text_joined g (d) h) (Nat.le_refl _) ⟨Nat.zero_le _, Nat.zero_le _⟩ rfl rfl (by simp [zr_cat, zcI, zcJ]) d_Text_valueOf_195 (fun v84 => ?_)
            refine zj_iastore d_Text_valueOf_198 (fun u85 => ?_)
            refine zj_iinc (v := (x6 + 1)) [some (zr g (some this)), some (.int a1), some (zr g a2), some (.int (x5 + (-1))), some (.int (x6 + 1)), some (.int v12)] d_Text_valueOf_199 rfl rfl (by decide) rfl rfl ?_
            refine zj_goto 31 d_Text_valueOf_202 rfl ?_
            refine zj_cut [some (zr g (some this)), some (.int a1), some (zr g a2), some (.int (x5 + (-1))), some (.int (x6 + 1)), none] ⟨rfl, ⟨rfl, ⟨rfl, ⟨rfl, ⟨rfl, trivial⟩⟩⟩⟩⟩ ?_
            exact hr3 u85 (x5 + (-1)) (x6 + 1)
          refine zj_aload_n d_Text_valueOf_136 rfl ?_
          refine zj_getR fl_Text_22 (fun _ _ _ _ => rfl) d_Text_valueOf_137 (fun v86 => ?_)
          refine zj_iload_n d_Text_valueOf_140 rfl ?_
          refine zj_iconst 1 d_Text_valueOf_141 (by decide) ?_
          refine zj_isub d_Text_valueOf_142 ?_
          refine zj_aload_n d_Text_valueOf_143 rfl ?_
          refine zj_getR fl_Text_22 (fun _ _ _ _ => rfl) d_Text_valueOf_144 (fun v87 => ?_)
          refine zj_iload_n d_Text_valueOf_147 rfl ?_
          refine zj_iconst 1 d_Text_valueOf_148 (by decide) ?_
          refine zj_isub d_Text_valueOf_149 ?_
          refine zj_iaload d_Text_valueOf_150 (fun v88 => ?_)
          refine zj_ineg d_Text_valueOf_151 ?_
          refine zj_iastore d_Text_valueOf_152 (fun u89 => ?_)
          refine zj_goto 199 d_Text_valueOf_153 rfl ?_
          refine zj_iinc (v := (x6 + 1)) [some (zr g (some this)), some (.int a1), some (zr g a2), some (.int x5), some (.int (x6 + 1)), some (.int v12)] d_Text_valueOf_199 rfl rfl (by decide) rfl rfl ?_
          refine zj_goto 31 d_Text_valueOf_202 rfl ?_
          refine zj_cut [some (zr g (some this)), some (.int a1), some (zr g a2), some (.int x5), some (.int (x6 + 1)), none] ⟨rfl, ⟨rfl, ⟨rfl, ⟨rfl, ⟨rfl, trivial⟩⟩⟩⟩⟩ ?_
          exact hr3 u89 x5 (x6 + 1)
        refine zj_aload_n d_Text_valueOf_96 rfl ?_
        refine zj_getR fl_Text_22 (fun _ _ _ _ => rfl) d_Text_valueOf_97 (fun v90 => ?_)
        refine zj_iload_n d_Text_valueOf_100 rfl ?_
        refine zj_iconst 1 d_Text_valueOf_101 (by decide) ?_
        refine zj_isub d_Text_valueOf_102 ?_
        refine zj_aload_n d_Text_valueOf_103 rfl ?_
        refine zj_getR fl_Text_22 (fun _ _ _ _ => rfl) d_Text_valueOf_104 (fun v91 => ?_)
        refine zj_iload_n d_Text_valueOf_107 rfl ?_
        refine zj_iconst 1 d_Text_valueOf_108 (by decide) ?_
        refine zj_isub d_Text_valueOf_109 ?_
        refine zj_iaload d_Text_valueOf_110 (fun v92 => ?_)
        refine zj_if_ne 118 d_Text_valueOf_111 rfl (fun _ => ?_) (fun _ => ?_)
        · refine zj_iconst 0 d_Text_valueOf_118 (by decide) ?_
          refine zj_iastore d_Text_valueOf_119 (fun u93 => ?_)
          refine zj_goto 199 d_Text_valueOf_120 rfl ?_
          refine zj_iinc (v := (x6 + 1)) [some (zr g (some this)), some (.int a1), some (zr g a2), some (.int x5), some (.int (x6 + 1)), some (.int v12)] d_Text_valueOf_199 rfl rfl (by decide) rfl rfl ?_
          refine zj_goto 31 d_Text_valueOf_202 rfl ?_
          refine zj_cut [some (zr g (some this)), some (.int a1), some (zr g a2), some (.int x5), some (.int (x6 + 1)), none] ⟨rfl, ⟨rfl, ⟨rfl, ⟨rfl, ⟨rfl, trivial⟩⟩⟩⟩⟩ ?_
          exact hr3 u93 x5 (x6 + 1)
        refine zj_iconst 1 d_Text_valueOf_114 (by decide) ?_
        refine zj_goto 119 d_Text_valueOf_115 rfl ?_
        refine zj_iastore d_Text_valueOf_119 (fun u94 => ?_)
        refine zj_goto 199 d_Text_valueOf_120 rfl ?_
        refine zj_iinc (v := (x6 + 1)) [some (zr g (some this)), some (.int a1), some (zr g a2), some (.int x5), some (.int (x6 + 1)), some (.int v12)] d_Text_valueOf_199 rfl rfl (by decide) rfl rfl ?_
        refine zj_goto 31 d_Text_valueOf_202 rfl ?_
        refine zj_cut [some (zr g (some this)), some (.int a1), some (zr g a2), some (.int x5), some (.int (x6 + 1)), none] ⟨rfl, ⟨rfl, ⟨rfl, ⟨rfl, ⟨rfl, trivial⟩⟩⟩⟩⟩ ?_
        exact hr3 u94 x5 (x6 + 1)
      refine zj_aload_n d_Text_valueOf_65 rfl ?_
      refine zj_getR fl_Text_22 (fun _ _ _ _ => rfl) d_Text_valueOf_66 (fun v95 => ?_)
      refine zj_iload_n d_Text_valueOf_69 rfl ?_
      refine zj_iload d_Text_valueOf_70 rfl ?_
      refine zj_aload_n d_Text_valueOf_72 rfl ?_
      refine zj_cSIp [.int v12, zr g a2] zm_S_Text_pushed ml_Text_25 (fun _ h => B_Text_pushed g (d) h) (Nat.le_refl _) ⟨Nat.zero_le _, Nat.zero_le _⟩ rfl rfl (by simp [zr_cat, zcI, zcJ]) d_Text_valueOf_73 (fun v96 => ?_)
      refine zj_iastore d_Text_valueOf_76 (fun u97 => ?_)
      refine zj_iinc (v := (x5 + 1)) [some (zr g (some this)), some (.int a1), some (zr g a2), some (.int (x5 + 1)), some (.int x6), some (.int v12)] d_Text_valueOf_77 rfl rfl (by decide) (by simp [zNL, zr_cat]) rfl ?_
      refine zj_goto 199 d_Text_valueOf_80 rfl ?_
      refine zj_iinc (v := (x6 + 1)) [some (zr g (some this)), some (.int a1), some (zr g a2), some (.int (x5 + 1)), some (.int (x6 + 1)), some (.int v12)] d_Text_valueOf_199 rfl rfl (by decide) rfl rfl ?_
      refine zj_goto 31 d_Text_valueOf_202 rfl ?_
      refine zj_cut [some (zr g (some this)), some (.int a1), some (zr g a2), some (.int (x5 + 1)), some (.int (x6 + 1)), none] ⟨rfl, ⟨rfl, ⟨rfl, ⟨rfl, ⟨rfl, trivial⟩⟩⟩⟩⟩ ?_
      exact hr3 u97 (x5 + 1) (x6 + 1)
    refine zj_if_ne 21 d_Text_valueOf_14 rfl (fun _ => ?_) (fun _ => ?_)
    · refine zj_aload_n d_Text_valueOf_21 rfl ?_
      refine zj_getR fl_Text_19 (fun _ _ _ _ => rfl) d_Text_valueOf_22 (fun v98 => ?_)
      refine zj_iload_n d_Text_valueOf_25 rfl ?_
      refine zj_iconst 1 d_Text_valueOf_26 (by decide) ?_
      refine zj_isub d_Text_valueOf_27 ?_
      refine zj_iaload d_Text_valueOf_28 (fun v99 => ?_)
      exact hj2 v99
    refine zj_iconst 0 d_Text_valueOf_17 (by decide) ?_
    refine zj_goto 29 d_Text_valueOf_18 rfl ?_
    exact hj2 0
  refine zj_iconst 0 d_Text_valueOf_9 (by decide) ?_
  exact zj_iret rfl rfl rfl rfl d_Text_valueOf_10
