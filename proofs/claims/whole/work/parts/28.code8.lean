def F_X_wellOf (u0 : zS) (this : Nat) (a1 : Option Nat) (a2 : Int32) : Option (Int32 × zS) := (zob u0 8 (some this)).bind fun q3 => (F_X_valueOf u0 q3 0 a1 a2).bind <| zk fun v1 u2 => (F_X_bounded u2 v1 0 99).bind fun v4 => some (v4, u2)
set_option maxHeartbeats 4000000 in
set_option maxRecDepth 100000 in
theorem B_X_wellOf (g : zG) (d : Nat) {u0 : zS} {this : Nat} {a1 : Option Nat} {a2 : Int32} {o : Int32 × zS} (h : F_X_wellOf u0 this a1 a2 = some o) : zMt g zy_X_wellOf (d + 4) 0 0 [zr g (some this), zr g a1, .int a2] u0 (some (.int o.1)) o.2 := by
  refine zMt_of2 (ls := [some (zr g (some this)), some (zr g a1), some (.int a2)]) 0 (by decide +kernel) (by simp [lg_sl, zr_cat, zcI, zcJ]) (by simp [zal, zr_cat, zcI, zcJ, List.replicate]) ?_
  revert h
  show zJ g zy_X_wellOf (d + 4) 0 0 zwI o 0 0 0 [some (zr g (some this)), some (zr g a1), some (.int a2)] [] u0 (F_X_wellOf u0 this a1 a2)
  unfold F_X_wellOf
  refine zj_aload_n d_X_wellOf_0 rfl ?_
  refine zj_iconst 0 d_X_wellOf_1 (by decide) ?_
  refine zj_aload_n d_X_wellOf_2 rfl ?_
  refine zj_iload_n d_X_wellOf_3 rfl ?_
  refine zj_cVI (ci := 8) (T := zT8) (N := 16) [.int 0, zr g a1, .int a2] zm_V_X_valueOf ml_X_342 rfl (fun _ _ h => B_X_valueOf g (d) h) (Nat.le_refl _) ⟨Nat.zero_le _, Nat.zero_le _⟩ rfl rfl (by decide) d_X_wellOf_4 (fun v1 u2 => ?_)
  refine zj_iconst 0 d_X_wellOf_7 (by decide) ?_
  refine zj_bipush 99 d_X_wellOf_8 (by decide) ?_
  refine zj_cSIp [.int v1, .int 0, .int 99] zm_S_X_bounded ml_X_345 (fun _ h => B_X_bounded g (d + 1) h) (Nat.le_refl _) ⟨Nat.zero_le _, Nat.zero_le _⟩ rfl rfl (by decide) d_X_wellOf_10 (fun v4 => ?_)
  exact zj_iret rfl rfl rfl rfl d_X_wellOf_13
def F_Person_can (u0 : zS) (this : Nat) (a1 : Int32) (a2 : Option Nat) : Option (Int32) := (zob u0 3 (some this)).bind fun q2 => (F_Person_isBarred u0 q2 a1).bind fun v1 => if v1 = 0 then ((zgI u0 3 (some this) 1).bind fun v3 => if a1 = v3 then (some 1) else ((zgI u0 2 a2 3).bind fun v4 => (zob u0 3 (some this)).bind fun q6 => (F_Person_recalls u0 q6 a1 v4).bind fun v5 => if v5 = 0 then ((zob u0 3 (some this)).bind fun q8 => (F_Person_isA u0 q8 1).bind fun v7 => if v7 = 0 then ((zgI u0 3 (some this) 0).bind fun v9 => if v9 = 3 then ((zob u0 2 a2).bind fun q14 => (F_Office_needs u0 q14 a1).bind fun v13 => if v13 = 0 then (some 1) else ((zgI u0 3 (some this) 0).bind fun v15 => if v15 = 4 then ((zgR u0 2 a2 2).bind fun v16 => (zaI u0 .int v16 a1).bind fun v17 => if v17 ≤ 50 then (some 0) else (some 1)) else (some 0))) else ((zgI u0 3 (some this) 0).bind fun v10 => if v10 = 4 then ((zgR u0 2 a2 2).bind fun v11 => (zaI u0 .int v11 a1).bind fun v12 => if v12 ≤ 50 then (some 0) else (some 1)) else (some 0))) else ((zgI u0 3 (some this) 1).bind fun v18 => if (zabs (a1 - v18)) = 1 then (some 1) else ((zgI u0 3 (some this) 0).bind fun v19 => if v19 = 3 then ((zob u0 2 a2).bind fun q24 => (F_Office_needs u0 q24 a1).bind fun v23 => if v23 = 0 then (some 1) else ((zgI u0 3 (some this) 0).bind fun v25 => if v25 = 4 then ((zgR u0 2 a2 2).bind fun v26 => (zaI u0 .int v26 a1).bind fun v27 => if v27 ≤ 50 then (some 0) else (some 1)) else (some 0))) else ((zgI u0 3 (some this) 0).bind fun v20 => if v20 = 4 then ((zgR u0 2 a2 2).bind fun v21 => (zaI u0 .int v21 a1).bind fun v22 => if v22 ≤ 50 then (some 0) else (some 1)) else (some 0))))) else (some 1))) else (some 0)
set_option maxHeartbeats 4000000 in
set_option maxRecDepth 100000 in
theorem B_Person_can (g : zG) (d : Nat) {u0 : zS} {this : Nat} {a1 : Int32} {a2 : Option Nat} {o : Int32} (h : F_Person_can u0 this a1 a2 = some o) : zMt g zy_Person_can (d + 4) 0 0 [zr g (some this), .int a1, zr g a2] u0 (some (.int o)) u0 := by
  refine zMt_of2 (ls := [some (zr g (some this)), some (.int a1), some (zr g a2)]) 0 (by decide +kernel) (by simp [lg_sl, zr_cat, zcI, zcJ]) (by simp [zal, zr_cat, zcI, zcJ, List.replicate]) ?_
  revert h
  show zJ g zy_Person_can (d + 4) 0 0 (zwIp u0) o 0 0 0 [some (zr g (some this)), some (.int a1), some (zr g a2)] [] u0 (F_Person_can u0 this a1 a2)
  unfold F_Person_can
  refine zj_aload_n d_Person_can_0 rfl ?_
  refine zj_iload_n d_Person_can_1 rfl ?_
  refine zj_cVIp (ci := 3) (T := zT3) (N := 10) [.int a1] zm_V_Person_isBarred ml_Person_60 rfl (fun _ _ h => B_Person_isBarred g (d + 2) h) (Nat.le_refl _) ⟨Nat.zero_le _, Nat.zero_le _⟩ rfl rfl (by decide) d_Person_can_2 (fun v1 => ?_)
  refine zj_if_eq 10 d_Person_can_5 rfl (fun _ => ?_) (fun _ => ?_)
  · refine zj_iload_n d_Person_can_10 rfl ?_
    refine zj_aload_n d_Person_can_11 rfl ?_
    refine zj_getI fl_Person_15 (fun _ _ _ _ => rfl) d_Person_can_12 (fun v3 => ?_)
    refine zj_icmp_eq 30 d_Person_can_15 rfl (fun _ => ?_) (fun _ => ?_)
    · refine zj_iconst 1 d_Person_can_30 (by decide) ?_
      exact zj_zretL (by decide) rfl rfl rfl rfl d_Person_can_31
    refine zj_aload_n d_Person_can_18 rfl ?_
    refine zj_iload_n d_Person_can_19 rfl ?_
    refine zj_aload_n d_Person_can_20 rfl ?_
    refine zj_getI fl_Person_63 (fun _ _ _ _ => rfl) d_Person_can_21 (fun v4 => ?_)
    refine zj_cVIp (ci := 3) (T := zT3) (N := 10) [.int a1, .int v4] zm_V_Person_recalls ml_Person_68 rfl (fun _ _ h => B_Person_recalls g (d) h) (Nat.le_refl _) ⟨Nat.zero_le _, Nat.zero_le _⟩ rfl rfl (by decide) d_Person_can_24 (fun v5 => ?_)
    refine zj_if_eq 32 d_Person_can_27 rfl (fun _ => ?_) (fun _ => ?_)
    · refine zj_aload_n d_Person_can_32 rfl ?_
      refine zj_iconst 1 d_Person_can_33 (by decide) ?_
      refine zj_cVIp (ci := 3) (T := zT3) (N := 10) [.int 1] zm_V_Person_isA ml_Person_52 rfl (fun _ _ h => B_Person_isA g (d + 2) h) (Nat.le_refl _) ⟨Nat.zero_le _, Nat.zero_le _⟩ rfl rfl (by decide) d_Person_can_34 (fun v7 => ?_)
      refine zj_if_eq 55 d_Person_can_37 rfl (fun _ => ?_) (fun _ => ?_)
      · refine zj_aload_n d_Person_can_55 rfl ?_
        refine zj_getI fl_Person_9 (fun _ _ _ _ => rfl) d_Person_can_56 (fun v9 => ?_)
        refine zj_iconst 3 d_Person_can_59 (by decide) ?_
        refine zj_icmp_ne 73 d_Person_can_60 rfl (fun _ => ?_) (fun _ => ?_)
        · refine zj_aload_n d_Person_can_73 rfl ?_
          refine zj_getI fl_Person_9 (fun _ _ _ _ => rfl) d_Person_can_74 (fun v10 => ?_)
          refine zj_iconst 4 d_Person_can_77 (by decide) ?_
          refine zj_icmp_ne 96 d_Person_can_78 rfl (fun _ => ?_) (fun _ => ?_)
          · refine zj_iconst 0 d_Person_can_96 (by decide) ?_
            exact zj_zretL (by decide) rfl rfl rfl rfl d_Person_can_97
          refine zj_aload_n d_Person_can_81 rfl ?_
          refine zj_getR fl_Person_81 (fun _ _ _ _ => rfl) d_Person_can_82 (fun v11 => ?_)
          refine zj_iload_n d_Person_can_85 rfl ?_
          refine zj_iaload d_Person_can_86 (fun v12 => ?_)
          refine zj_bipush 50 d_Person_can_87 (by decide) ?_
          refine zj_icmp_le 96 d_Person_can_89 rfl (fun _ => ?_) (fun _ => ?_)
          · refine zj_iconst 0 d_Person_can_96 (by decide) ?_
            exact zj_zretL (by decide) rfl rfl rfl rfl d_Person_can_97
          refine zj_iconst 1 d_Person_can_92 (by decide) ?_
          refine zj_goto 97 d_Person_can_93 rfl ?_
          exact zj_zretL (by decide) rfl rfl rfl rfl d_Person_can_97
        refine zj_aload_n d_Person_can_63 rfl ?_
        refine zj_iload_n d_Person_can_64 rfl ?_
        refine zj_cVIp (ci := 2) (T := zT2) (N := 4) [.int a1] zm_V_Office_needs ml_Person_78 rfl (fun _ _ h => B_Office_needs g (d + 2) h) (Nat.le_refl _) ⟨Nat.zero_le _, Nat.zero_le _⟩ rfl rfl (by decide) d_Person_can_65 (fun v13 => ?_)
        refine zj_if_ne 73 d_Person_can_68 rfl (fun _ => ?_) (fun _ => ?_)
        · refine zj_aload_n d_Person_can_73 rfl ?_
          refine zj_getI fl_Person_9 (fun _ _ _ _ => rfl) d_Person_can_74 (fun v15 => ?_)
          refine zj_iconst 4 d_Person_can_77 (by decide) ?_
          refine zj_icmp_ne 96 d_Person_can_78 rfl (fun _ => ?_) (fun _ => ?_)
          · refine zj_iconst 0 d_Person_can_96 (by decide) ?_
            exact zj_zretL (by decide) rfl rfl rfl rfl d_Person_can_97
          refine zj_aload_n d_Person_can_81 rfl ?_
          refine zj_getR fl_Person_81 (fun _ _ _ _ => rfl) d_Person_can_82 (fun v16 => ?_)
          refine zj_iload_n d_Person_can_85 rfl ?_
          refine zj_iaload d_Person_can_86 (fun v17 => ?_)
          refine zj_bipush 50 d_Person_can_87 (by decide) ?_
          refine zj_icmp_le 96 d_Person_can_89 rfl (fun _ => ?_) (fun _ => ?_)
          · refine zj_iconst 0 d_Person_can_96 (by decide) ?_
            exact zj_zretL (by decide) rfl rfl rfl rfl d_Person_can_97
          refine zj_iconst 1 d_Person_can_92 (by decide) ?_
          refine zj_goto 97 d_Person_can_93 rfl ?_
          exact zj_zretL (by decide) rfl rfl rfl rfl d_Person_can_97
        refine zj_iconst 1 d_Person_can_71 (by decide) ?_
        exact zj_zretL (by decide) rfl rfl rfl rfl d_Person_can_72
      refine zj_iload_n d_Person_can_40 rfl ?_
      refine zj_aload_n d_Person_can_41 rfl ?_
      refine zj_getI fl_Person_15 (fun _ _ _ _ => rfl) d_Person_can_42 (fun v18 => ?_)
      refine zj_isub d_Person_can_45 ?_
      refine zj_mabs mtl_Person_72 mts_abs mti_ mtc_abs (by omega) ⟨Nat.zero_le _, Nat.zero_le _⟩ (by decide) d_Person_can_46 ?_
      refine zj_iconst 1 d_Person_can_49 (by decide) ?_
      refine zj_icmp_ne 55 d_Person_can_50 rfl (fun _ => ?_) (fun _ => ?_)
      · refine zj_aload_n d_Person_can_55 rfl ?_
        refine zj_getI fl_Person_9 (fun _ _ _ _ => rfl) d_Person_can_56 (fun v19 => ?_)
        refine zj_iconst 3 d_Person_can_59 (by decide) ?_
        refine zj_icmp_ne 73 d_Person_can_60 rfl (fun _ => ?_) (fun _ => ?_)
        · refine zj_aload_n d_Person_can_73 rfl ?_
          refine zj_getI fl_Person_9 (fun _ _ _ _ => rfl) d_Person_can_74 (fun v20 => ?_)
          refine zj_iconst 4 d_Person_can_77 (by decide) ?_
          refine zj_icmp_ne 96 d_Person_can_78 rfl (fun _ => ?_) (fun _ => ?_)
          · refine zj_iconst 0 d_Person_can_96 (by decide) ?_
            exact zj_zretL (by decide) rfl rfl rfl rfl d_Person_can_97
          refine zj_aload_n d_Person_can_81 rfl ?_
          refine zj_getR fl_Person_81 (fun _ _ _ _ => rfl) d_Person_can_82 (fun v21 => ?_)
          refine zj_iload_n d_Person_can_85 rfl ?_
          refine zj_iaload d_Person_can_86 (fun v22 => ?_)
          refine zj_bipush 50 d_Person_can_87 (by decide) ?_
          refine zj_icmp_le 96 d_Person_can_89 rfl (fun _ => ?_) (fun _ => ?_)
          · refine zj_iconst 0 d_Person_can_96 (by decide) ?_
            exact zj_zretL (by decide) rfl rfl rfl rfl d_Person_can_97
          refine zj_iconst 1 d_Person_can_92 (by decide) ?_
          refine zj_goto 97 d_Person_can_93 rfl ?_
          exact zj_zretL (by decide) rfl rfl rfl rfl d_Person_can_97
        refine zj_aload_n d_Person_can_63 rfl ?_
        refine zj_iload_n d_Person_can_64 rfl ?_
        refine zj_cVIp (ci := 2) (T := zT2) (N := 4) [.int a1] zm_V_Office_needs ml_Person_78 rfl (fun _ _ h => B_Office_needs g (d + 2) h) (Nat.le_refl _) ⟨Nat.zero_le _, Nat.zero_le _⟩ rfl rfl (by decide) d_Person_can_65 (fun v23 => ?_)
        refine zj_if_ne 73 d_Person_can_68 rfl (fun _ => ?_) (fun _ => ?_)
        · refine zj_aload_n d_Person_can_73 rfl ?_
          refine zj_getI fl_Person_9 (fun _ _ _ _ => rfl) d_Person_can_74 (fun v25 => ?_)
          refine zj_iconst 4 d_Person_can_77 (by decide) ?_
          refine zj_icmp_ne 96 d_Person_can_78 rfl (fun _ => ?_) (fun _ => ?_)
          · refine zj_iconst 0 d_Person_can_96 (by decide) ?_
            exact zj_zretL (by decide) rfl rfl rfl rfl d_Person_can_97
          refine zj_aload_n d_Person_can_81 rfl ?_
          refine zj_getR fl_Person_81 (fun _ _ _ _ => rfl) d_Person_can_82 (fun v26 => ?_)
          refine zj_iload_n d_Person_can_85 rfl ?_
          refine zj_iaload d_Person_can_86 (fun v27 => ?_)
          refine zj_bipush 50 d_Person_can_87 (by decide) ?_
          refine zj_icmp_le 96 d_Person_can_89 rfl (fun _ => ?_) (fun _ => ?_)
          · refine zj_iconst 0 d_Person_can_96 (by decide) ?_
            exact zj_zretL (by decide) rfl rfl rfl rfl d_Person_can_97
          refine zj_iconst 1 d_Person_can_92 (by decide) ?_
          refine zj_goto 97 d_Person_can_93 rfl ?_
          exact zj_zretL (by decide) rfl rfl rfl rfl d_Person_can_97
        refine zj_iconst 1 d_Person_can_71 (by decide) ?_
        exact zj_zretL (by decide) rfl rfl rfl rfl d_Person_can_72
      refine zj_iconst 1 d_Person_can_53 (by decide) ?_
      exact zj_zretL (by decide) rfl rfl rfl rfl d_Person_can_54
    refine zj_iconst 1 d_Person_can_30 (by decide) ?_
    exact zj_zretL (by decide) rfl rfl rfl rfl d_Person_can_31
  refine zj_iconst 0 d_Person_can_8 (by decide) ?_
  exact zj_zretL (by decide) rfl rfl rfl rfl d_Person_can_9
def F_M_both (rec : Nat → zS → Nat → Option zS) (u0 : zS) (this : Nat) : Option (zS) := (zob u0 9 (some this)).bind fun q3 => (rec 3 u0 q3 ).bind fun u2 => zfix1 (fun (r4 : zS → Option (zS)) (u5 : zS) => (zob u5 9 (some this)).bind fun q7 => (F_M_isKey u5 q7 4).bind fun v6 => if v6 = 0 then (some u5) else ((zob u5 9 (some this)).bind fun q10 => (F_M_next u5 q10 ).bind fun u9 => (zob u9 9 (some this)).bind fun q13 => (rec 3 u9 q13 ).bind fun u12 => (zob u12 9 (some this)).bind fun q16 => (F_M_lay u12 q16 (-102)).bind fun u15 => r4 u15)) zFU u2
set_option maxHeartbeats 4000000 in
set_option maxRecDepth 100000 in
theorem B_M_both (g : zG) (d : Nat) (hdd : 8 ≤ d) {rec : Nat → zS → Nat → Option zS} (hrec_one : ∀ {u0 : zS} {this : Nat} {o : zS}, rec 0 u0 this = some o → zMt g zy_M_one d 0 0 [zr g (some this)] u0 none o) (hrec_term : ∀ {u0 : zS} {this : Nat} {o : zS}, rec 1 u0 this = some o → zMt g zy_M_term d 0 0 [zr g (some this)] u0 none o) (hrec_sum : ∀ {u0 : zS} {this : Nat} {o : zS}, rec 2 u0 this = some o → zMt g zy_M_sum d 0 0 [zr g (some this)] u0 none o) (hrec_not : ∀ {u0 : zS} {this : Nat} {o : zS}, rec 3 u0 this = some o → zMt g zy_M_not d 0 0 [zr g (some this)] u0 none o) (hrec_both : ∀ {u0 : zS} {this : Nat} {o : zS}, rec 4 u0 this = some o → zMt g zy_M_both d 0 0 [zr g (some this)] u0 none o) (hrec_either : ∀ {u0 : zS} {this : Nat} {o : zS}, rec 5 u0 this = some o → zMt g zy_M_either d 0 0 [zr g (some this)] u0 none o) {u0 : zS} {this : Nat} {o : zS} (h : F_M_both rec u0 this = some o) : zMt g zy_M_both (d + 1) 0 0 [zr g (some this)] u0 none o := by
  refine zMt_of2 (ls := [some (zr g (some this))]) 0 (by decide +kernel) (by simp [lg_sl, zr_cat, zcI, zcJ]) (by simp [zal, zr_cat, zcI, zcJ, List.replicate]) ?_
  revert h
  show zJ g zy_M_both (d + 1) 0 0 zwV o 0 0 0 [some (zr g (some this))] [] u0 (F_M_both rec u0 this)
  unfold F_M_both
  refine zj_aload_n d_M_both_0 rfl ?_
  refine zj_cVU (ci := 9) (T := zT9) (N := 53) [] zm_V_M_not ml_M_244 rfl (fun _ _ h => hrec_not h) (Nat.le_refl _) ⟨Nat.zero_le _, Nat.zero_le _⟩ rfl rfl (by decide) d_M_both_1 (fun u2 => ?_)
  refine zj_fix1 (fun u5 => [some (zr g (some this))]) (fun u5 => u5) (fun r4 hr4 u5 => ?_) u2
  refine zj_aload_n d_M_both_4 rfl ?_
  refine zj_iconst 4 d_M_both_5 (by decide) ?_
  refine zj_cVIp (ci := 9) (T := zT9) (N := 53) [.int 4] zm_V_M_isKey ml_M_241 rfl (fun _ _ h => B_M_isKey g (d - 1) h) (by omega) ⟨Nat.zero_le _, Nat.zero_le _⟩ rfl rfl (by decide) d_M_both_6 (fun v6 => ?_)
  refine zj_if_eq 29 d_M_both_9 rfl (fun _ => ?_) (fun _ => ?_)
  · exact zj_vret rfl rfl rfl rfl d_M_both_29
  refine zj_aload_n d_M_both_12 rfl ?_
  refine zj_cVU (ci := 9) (T := zT9) (N := 53) [] zm_V_M_next ml_M_218 rfl (fun _ _ h => B_M_next g (d - 3) h) (by omega) ⟨Nat.zero_le _, Nat.zero_le _⟩ rfl rfl (by decide) d_M_both_13 (fun u9 => ?_)
  refine zj_aload_n d_M_both_16 rfl ?_
  refine zj_cVU (ci := 9) (T := zT9) (N := 53) [] zm_V_M_not ml_M_244 rfl (fun _ _ h => hrec_not h) (Nat.le_refl _) ⟨Nat.zero_le _, Nat.zero_le _⟩ rfl rfl (by decide) d_M_both_17 (fun u12 => ?_)
  refine zj_aload_n d_M_both_20 rfl ?_
  refine zj_bipush (-102) d_M_both_21 (by decide) ?_
  refine zj_cVU (ci := 9) (T := zT9) (N := 53) [.int (-102)] zm_V_M_lay ml_M_221 rfl (fun _ _ h => B_M_lay g (d - 1) h) (by omega) ⟨Nat.zero_le _, Nat.zero_le _⟩ rfl rfl (by decide) d_M_both_23 (fun u15 => ?_)
  refine zj_goto 4 d_M_both_26 rfl ?_
  exact hr4 u15
def F_M_either (rec : Nat → zS → Nat → Option zS) (u0 : zS) (this : Nat) : Option (zS) := (zob u0 9 (some this)).bind fun q3 => (rec 4 u0 q3 ).bind fun u2 => zfix1 (fun (r4 : zS → Option (zS)) (u5 : zS) => (zob u5 9 (some this)).bind fun q7 => (F_M_isKey u5 q7 3).bind fun v6 => if v6 = 0 then (some u5) else ((zob u5 9 (some this)).bind fun q10 => (F_M_next u5 q10 ).bind fun u9 => (zob u9 9 (some this)).bind fun q13 => (rec 4 u9 q13 ).bind fun u12 => (zob u12 9 (some this)).bind fun q16 => (F_M_lay u12 q16 (-103)).bind fun u15 => r4 u15)) zFU u2
set_option maxHeartbeats 4000000 in
set_option maxRecDepth 100000 in
theorem B_M_either (g : zG) (d : Nat) (hdd : 8 ≤ d) {rec : Nat → zS → Nat → Option zS} (hrec_one : ∀ {u0 : zS} {this : Nat} {o : zS}, rec 0 u0 this = some o → zMt g zy_M_one d 0 0 [zr g (some this)] u0 none o) (hrec_term : ∀ {u0 : zS} {this : Nat} {o : zS}, rec 1 u0 this = some o → zMt g zy_M_term d 0 0 [zr g (some this)] u0 none o) (hrec_sum : ∀ {u0 : zS} {this : Nat} {o : zS}, rec 2 u0 this = some o → zMt g zy_M_sum d 0 0 [zr g (some this)] u0 none o) (hrec_not : ∀ {u0 : zS} {this : Nat} {o : zS}, rec 3 u0 this = some o → zMt g zy_M_not d 0 0 [zr g (some this)] u0 none o) (hrec_both : ∀ {u0 : zS} {this : Nat} {o : zS}, rec 4 u0 this = some o → zMt g zy_M_both d 0 0 [zr g (some this)] u0 none o) (hrec_either : ∀ {u0 : zS} {this : Nat} {o : zS}, rec 5 u0 this = some o → zMt g zy_M_either d 0 0 [zr g (some this)] u0 none o) {u0 : zS} {this : Nat} {o : zS} (h : F_M_either rec u0 this = some o) : zMt g zy_M_either (d + 1) 0 0 [zr g (some this)] u0 none o := by
  refine zMt_of2 (ls := [some (zr g (some this))]) 0 (by decide +kernel) (by simp [lg_sl, zr_cat, zcI, zcJ]) (by simp [zal, zr_cat, zcI, zcJ, List.replicate]) ?_
  revert h
  show zJ g zy_M_either (d + 1) 0 0 zwV o 0 0 0 [some (zr g (some this))] [] u0 (F_M_either rec u0 this)
  unfold F_M_either
  refine zj_aload_n d_M_either_0 rfl ?_
  refine zj_cVU (ci := 9) (T := zT9) (N := 53) [] zm_V_M_both ml_M_250 rfl (fun _ _ h => hrec_both h) (Nat.le_refl _) ⟨Nat.zero_le _, Nat.zero_le _⟩ rfl rfl (by decide) d_M_either_1 (fun u2 => ?_)
  refine zj_fix1 (fun u5 => [some (zr g (some this))]) (fun u5 => u5) (fun r4 hr4 u5 => ?_) u2
  refine zj_aload_n d_M_either_4 rfl ?_
  refine zj_iconst 3 d_M_either_5 (by decide) ?_
  refine zj_cVIp (ci := 9) (T := zT9) (N := 53) [.int 3] zm_V_M_isKey ml_M_241 rfl (fun _ _ h => B_M_isKey g (d - 1) h) (by omega) ⟨Nat.zero_le _, Nat.zero_le _⟩ rfl rfl (by decide) d_M_either_6 (fun v6 => ?_)
  refine zj_if_eq 29 d_M_either_9 rfl (fun _ => ?_) (fun _ => ?_)
  · exact zj_vret rfl rfl rfl rfl d_M_either_29
  refine zj_aload_n d_M_either_12 rfl ?_
  refine zj_cVU (ci := 9) (T := zT9) (N := 53) [] zm_V_M_next ml_M_218 rfl (fun _ _ h => B_M_next g (d - 3) h) (by omega) ⟨Nat.zero_le _, Nat.zero_le _⟩ rfl rfl (by decide) d_M_either_13 (fun u9 => ?_)
  refine zj_aload_n d_M_either_16 rfl ?_
  refine zj_cVU (ci := 9) (T := zT9) (N := 53) [] zm_V_M_both ml_M_250 rfl (fun _ _ h => hrec_both h) (Nat.le_refl _) ⟨Nat.zero_le _, Nat.zero_le _⟩ rfl rfl (by decide) d_M_either_17 (fun u12 => ?_)
  refine zj_aload_n d_M_either_20 rfl ?_
  refine zj_bipush (-103) d_M_either_21 (by decide) ?_
  refine zj_cVU (ci := 9) (T := zT9) (N := 53) [.int (-103)] zm_V_M_lay ml_M_221 rfl (fun _ _ h => B_M_lay g (d - 1) h) (by omega) ⟨Nat.zero_le _, Nat.zero_le _⟩ rfl rfl (by decide) d_M_either_23 (fun u15 => ?_)
  refine zj_goto 4 d_M_either_26 rfl ?_
  exact hr4 u15
def F_M_few (u0 : zS) (this : Nat) (a1 : Int32) : Option (Int32 × zS) := (zob u0 9 (some this)).bind fun q2 => (F_M_areAway u0 q2 a1).bind fun v1 => if v1 = 0 then (some ((-2), u0)) else ((zob u0 9 (some this)).bind fun q5 => (F_M_findCan u0 q5 ).bind fun u4 => zfix2 (fun (r6 : Int32 → Int32 → Option (Int32 × zS)) (x7 : Int32) (x8 : Int32) => (zgI u4 9 (some this) 1).bind fun v9 => if ((1 : Int32) <<< (v9 &&& 31)) ≤ x8 then (some (x7, u4)) else (zfix2 (fun (r10 : Int32 → Int32 → Option (Int32 × zS)) (x11 : Int32) (x12 : Int32) => (zgI u4 9 (some this) 4).bind fun v13 => if v13 ≤ x12 then (zfix2 (fun (r14 : Int32 → Int32 → Option (Int32 × zS)) (x15 : Int32) (x16 : Int32) => (zgI u4 9 (some this) 1).bind fun v17 => if v17 ≤ x16 then (if x15 = 0 then (r6 x7 (x8 + 1)) else ((F_M_bitsOf u4 x8).bind fun v18 => if v18 ≤ x11 then (r6 x7 (x8 + 1)) else (if x7 < 0 then (r6 x8 (x8 + 1)) else ((F_M_bitsOf u4 x8).bind fun v19 => (F_M_bitsOf u4 x7).bind fun v20 => if v20 ≤ v19 then (r6 x7 (x8 + 1)) else (r6 x8 (x8 + 1)))))) else (if x15 = 0 then (r14 0 (x16 + 1)) else (if ((x8 >>> (x16 &&& 31)) &&& 1) = 0 then (r14 1 (x16 + 1)) else ((zgR u4 9 (some this) 2).bind fun v21 => (zaI u4 .boolean v21 x16).bind fun v22 => if v22 = 0 then (r14 0 (x16 + 1)) else (r14 1 (x16 + 1)))))) zFU 1 0) else (if ((a1 >>> (x12 &&& 31)) &&& 1) = 0 then ((zgR u4 9 (some this) 32).bind fun v23 => (zaI u4 .int v23 x12).bind fun v24 => if (v24 &&& x8) = 0 then (r10 (x11 + 0) (x12 + 1)) else (r10 (x11 + 1) (x12 + 1))) else (r10 (x11 + 0) (x12 + 1)))) zFU 0 0)) zFU (-1) 1)
set_option maxHeartbeats 4000000 in
set_option maxRecDepth 100000 in
theorem B_M_few (g : zG) (d : Nat) {u0 : zS} {this : Nat} {a1 : Int32} {o : Int32 × zS} (h : F_M_few u0 this a1 = some o) : zMt g zy_M_few (d + 4) 0 0 [zr g (some this), .int a1] u0 (some (.int o.1)) o.2 := by
  refine zMt_of2 (ls := [some (zr g (some this)), some (.int a1), none, none, none, none, none]) 5 (by decide +kernel) (by simp [lg_sl, zr_cat, zcI, zcJ]) (by simp [zal, zr_cat, zcI, zcJ, List.replicate]) ?_
  revert h
  show zJ g zy_M_few (d + 4) 0 0 zwI o 0 0 0 [some (zr g (some this)), some (.int a1), none, none, none, none, none] [] u0 (F_M_few u0 this a1)
  unfold F_M_few
  refine zj_aload_n d_M_few_0 rfl ?_
  refine zj_iload_n d_M_few_1 rfl ?_
  refine zj_cVIp (ci := 9) (T := zT9) (N := 53) [.int a1] zm_V_M_areAway ml_M_276 rfl (fun _ _ h => B_M_areAway g (d + 2) h) (Nat.le_refl _) ⟨Nat.zero_le _, Nat.zero_le _⟩ rfl rfl (by decide) d_M_few_2 (fun v1 => ?_)
  refine zj_if_ne 11 d_M_few_5 rfl (fun _ => ?_) (fun _ => ?_)
  · refine zj_aload_n d_M_few_11 rfl ?_
    refine zj_cVU (ci := 9) (T := zT9) (N := 53) [] zm_V_M_findCan ml_M_279 rfl (fun _ _ h => B_M_findCan g (d) h) (Nat.le_refl _) ⟨Nat.zero_le _, Nat.zero_le _⟩ rfl rfl (by decide) d_M_few_12 (fun u4 => ?_)
    refine zj_iconst (-1) d_M_few_15 (by decide) ?_
    refine zj_istore_n [some (zr g (some this)), some (.int a1), some (.int (-1)), none, none, none, none] d_M_few_16 (by decide) rfl rfl ?_
    refine zj_iconst 1 d_M_few_17 (by decide) ?_
    refine zj_istore_n [some (zr g (some this)), some (.int a1), some (.int (-1)), some (.int 1), none, none, none] d_M_few_18 (by decide) rfl rfl ?_
    refine zj_fix2 (fun x7 x8 => [some (zr g (some this)), some (.int a1), some (.int x7), some (.int x8), none, none, none]) (fun x7 x8 => u4) (fun r6 hr6 x7 x8 => ?_) (-1) 1
    refine zj_iload_n d_M_few_19 rfl ?_
    refine zj_iconst 1 d_M_few_20 (by decide) ?_
    refine zj_aload_n d_M_few_21 rfl ?_
    refine zj_getI fl_M_106 (fun _ _ _ _ => rfl) d_M_few_22 (fun v9 => ?_)
    refine zj_ishl d_M_few_25 ?_
    refine zj_icmp_ge 170 d_M_few_26 rfl (fun _ => ?_) (fun _ => ?_)
    · refine zj_iload_n d_M_few_170 rfl ?_
      exact zj_iret rfl rfl rfl rfl d_M_few_171
    refine zj_iconst 0 d_M_few_29 (by decide) ?_
    refine zj_istore [some (zr g (some this)), some (.int a1), some (.int x7), some (.int x8), some (.int 0), none, none] d_M_few_30 (by decide) rfl rfl ?_
    refine zj_iconst 0 d_M_few_32 (by decide) ?_
    refine zj_istore [some (zr g (some this)), some (.int a1), some (.int x7), some (.int x8), some (.int 0), some (.int 0), none] d_M_few_33 (by decide) rfl rfl ?_
    refine zj_fix2 (fun x11 x12 => [some (zr g (some this)), some (.int a1), some (.int x7), some (.int x8), some (.int x11), some (.int x12), none]) (fun x11 x12 => u4) (fun r10 hr10 x11 x12 => ?_) 0 0
    refine zj_iload d_M_few_35 rfl ?_
    refine zj_aload_n d_M_few_37 rfl ?_
    refine zj_getI fl_M_113 (fun _ _ _ _ => rfl) d_M_few_38 (fun v13 => ?_)
    refine zj_icmp_ge 81 d_M_few_41 rfl (fun _ => ?_) (fun _ => ?_)
    · refine zj_iconst 1 d_M_few_81 (by decide) ?_
      refine zj_istore [some (zr g (some this)), some (.int a1), some (.int x7), some (.int x8), some (.int x11), some (.int 1), none] d_M_few_82 (by decide) rfl rfl ?_
      refine zj_iconst 0 d_M_few_84 (by decide) ?_
      refine zj_istore [some (zr g (some this)), some (.int a1), some (.int x7), some (.int x8), some (.int x11), some (.int 1), some (.int 0)] d_M_few_85 (by decide) rfl rfl ?_
      refine zj_fix2 (fun x15 x16 => [some (zr g (some this)), some (.int a1), some (.int x7), some (.int x8), some (.int x11), some (.int x15), some (.int x16)]) (fun x15 x16 => u4) (fun r14 hr14 x15 x16 => ?_) 1 0
      refine zj_iload d_M_few_87 rfl ?_
      refine zj_aload_n d_M_few_89 rfl ?_
      refine zj_getI fl_M_106 (fun _ _ _ _ => rfl) d_M_few_90 (fun v17 => ?_)
      refine zj_icmp_ge 133 d_M_few_93 rfl (fun _ => ?_) (fun _ => ?_)
      · refine zj_iload d_M_few_133 rfl ?_
        refine zj_if_eq 164 d_M_few_135 rfl (fun _ => ?_) (fun _ => ?_)
        · refine zj_iinc (v := (x8 + 1)) [some (zr g (some this)), some (.int a1), some (.int x7), some (.int (x8 + 1)), some (.int x11), some (.int x15), some (.int x16)] d_M_few_164 rfl rfl (by decide) rfl rfl ?_
          refine zj_goto 19 d_M_few_167 rfl ?_
          refine zj_cut [some (zr g (some this)), some (.int a1), some (.int x7), some (.int (x8 + 1)), none, none, none] ⟨rfl, ⟨rfl, ⟨rfl, ⟨rfl, trivial⟩⟩⟩⟩ ?_
          exact hr6 x7 (x8 + 1)
        refine zj_iload d_M_few_138 rfl ?_
        refine zj_iload_n d_M_few_140 rfl ?_
        refine zj_cSIp [.int x8] zm_S_M_bitsOf ml_M_288 (fun _ h => B_M_bitsOf g (d + 2) h) (Nat.le_refl _) ⟨Nat.zero_le _, Nat.zero_le _⟩ rfl rfl (by simp [zcI, zcJ]) d_M_few_141 (fun v18 => ?_)
        refine zj_icmp_ge 164 d_M_few_144 rfl (fun _ => ?_) (fun _ => ?_)
        · refine zj_iinc (v := (x8 + 1)) [some (zr g (some this)), some (.int a1), some (.int x7), some (.int (x8 + 1)), some (.int x11), some (.int x15), some (.int x16)] d_M_few_164 rfl rfl (by decide) rfl rfl ?_
          refine zj_goto 19 d_M_few_167 rfl ?_
          refine zj_cut [some (zr g (some this)), some (.int a1), some (.int x7), some (.int (x8 + 1)), none, none, none] ⟨rfl, ⟨rfl, ⟨rfl, ⟨rfl, trivial⟩⟩⟩⟩ ?_
          exact hr6 x7 (x8 + 1)
        refine zj_iload_n d_M_few_147 rfl ?_
        refine zj_if_lt 162 d_M_few_148 rfl (fun _ => ?_) (fun _ => ?_)
        · refine zj_iload_n d_M_few_162 rfl ?_
          refine zj_istore_n [some (zr g (some this)), some (.int a1), some (.int x8), some (.int x8), some (.int x11), some (.int x15), some (.int x16)] d_M_few_163 (by decide) rfl rfl ?_
          refine zj_iinc (v := (x8 + 1)) [some (zr g (some this)), some (.int a1), some (.int x8), some (.int (x8 + 1)), some (.int x11), some (.int x15), some (.int x16)] d_M_few_164 rfl rfl (by decide) rfl rfl ?_
          refine zj_goto 19 d_M_few_167 rfl ?_
          refine zj_cut [some (zr g (some this)), some (.int a1), some (.int x8), some (.int (x8 + 1)), none, none, none] ⟨rfl, ⟨rfl, ⟨rfl, ⟨rfl, trivial⟩⟩⟩⟩ ?_
          exact hr6 x8 (x8 + 1)
        refine zj_iload_n d_M_few_151 rfl ?_
        refine zj_cSIp [.int x8] zm_S_M_bitsOf ml_M_288 (fun _ h => B_M_bitsOf g (d + 2) h) (Nat.le_refl _) ⟨Nat.zero_le _, Nat.zero_le _⟩ rfl rfl (by decide) d_M_few_152 (fun v19 => ?_)
        refine zj_iload_n d_M_few_155 rfl ?_
        refine zj_cSIp [.int x7] zm_S_M_bitsOf ml_M_288 (fun _ h => B_M_bitsOf g (d + 2) h) (Nat.le_refl _) ⟨Nat.zero_le _, Nat.zero_le _⟩ rfl rfl (by simp [zcI, zcJ]) d_M_few_156 (fun v20 => ?_)
        refine zj_icmp_ge 164 d_M_few_159 rfl (fun _ => ?_) (fun _ => ?_)
        · refine zj_iinc (v := (x8 + 1)) [some (zr g (some this)), some (.int a1), some (.int x7), some (.int (x8 + 1)), some (.int x11), some (.int x15), some (.int x16)] d_M_few_164 rfl rfl (by decide) rfl rfl ?_
          refine zj_goto 19 d_M_few_167 rfl ?_
          refine zj_cut [some (zr g (some this)), some (.int a1), some (.int x7), some (.int (x8 + 1)), none, none, none] ⟨rfl, ⟨rfl, ⟨rfl, ⟨rfl, trivial⟩⟩⟩⟩ ?_
          exact hr6 x7 (x8 + 1)
        refine zj_iload_n d_M_few_162 rfl ?_
        refine zj_istore_n [some (zr g (some this)), some (.int a1), some (.int x8), some (.int x8), some (.int x11), some (.int x15), some (.int x16)] d_M_few_163 (by decide) rfl rfl ?_
        refine zj_iinc (v := (x8 + 1)) [some (zr g (some this)), some (.int a1), some (.int x8), some (.int (x8 + 1)), some (.int x11), some (.int x15), some (.int x16)] d_M_few_164 rfl rfl (by decide) rfl rfl ?_
        refine zj_goto 19 d_M_few_167 rfl ?_
        refine zj_cut [some (zr g (some this)), some (.int a1), some (.int x8), some (.int (x8 + 1)), none, none, none] ⟨rfl, ⟨rfl, ⟨rfl, ⟨rfl, trivial⟩⟩⟩⟩ ?_
        exact hr6 x8 (x8 + 1)
      refine zj_iload d_M_few_96 rfl ?_
      refine zj_if_eq 124 d_M_few_98 rfl (fun _ => ?_) (fun _ => ?_)
      · refine zj_iconst 0 d_M_few_124 (by decide) ?_
        refine zj_istore [some (zr g (some this)), some (.int a1), some (.int x7), some (.int x8), some (.int x11), some (.int 0), some (.int x16)] d_M_few_125 (by decide) rfl rfl ?_
        refine zj_iinc (v := (x16 + 1)) [some (zr g (some this)), some (.int a1), some (.int x7), some (.int x8), some (.int x11), some (.int 0), some (.int (x16 + 1))] d_M_few_127 rfl rfl (by decide) rfl rfl ?_
        refine zj_goto 87 d_M_few_130 rfl ?_
        exact hr14 0 (x16 + 1)
      refine zj_iload_n d_M_few_101 rfl ?_
      refine zj_iload d_M_few_102 rfl ?_
      refine zj_ishr d_M_few_104 ?_
      refine zj_iconst 1 d_M_few_105 (by decide) ?_
      refine zj_iand d_M_few_106 ?_
      refine zj_if_eq 120 d_M_few_107 rfl (fun _ => ?_) (fun _ => ?_)
      · refine zj_iconst 1 d_M_few_120 (by decide) ?_
        refine zj_goto 125 d_M_few_121 rfl ?_
        refine zj_istore [some (zr g (some this)), some (.int a1), some (.int x7), some (.int x8), some (.int x11), some (.int 1), some (.int x16)] d_M_few_125 (by decide) rfl rfl ?_
        refine zj_iinc (v := (x16 + 1)) [some (zr g (some this)), some (.int a1), some (.int x7), some (.int x8), some (.int x11), some (.int 1), some (.int (x16 + 1))] d_M_few_127 rfl rfl (by decide) rfl rfl ?_
        refine zj_goto 87 d_M_few_130 rfl ?_
        exact hr14 1 (x16 + 1)
      refine zj_aload_n d_M_few_110 rfl ?_
      refine zj_getR fl_M_13 (fun _ _ _ _ => rfl) d_M_few_111 (fun v21 => ?_)
      refine zj_iload d_M_few_114 rfl ?_
      refine zj_zaload d_M_few_116 (fun v22 => ?_)
      refine zj_if_eq 124 d_M_few_117 rfl (fun _ => ?_) (fun _ => ?_)
      · refine zj_iconst 0 d_M_few_124 (by decide) ?_
        refine zj_istore [some (zr g (some this)), some (.int a1), some (.int x7), some (.int x8), some (.int x11), some (.int 0), some (.int x16)] d_M_few_125 (by decide) rfl rfl ?_
        refine zj_iinc (v := (x16 + 1)) [some (zr g (some this)), some (.int a1), some (.int x7), some (.int x8), some (.int x11), some (.int 0), some (.int (x16 + 1))] d_M_few_127 rfl rfl (by decide) rfl rfl ?_
        refine zj_goto 87 d_M_few_130 rfl ?_
        exact hr14 0 (x16 + 1)
      refine zj_iconst 1 d_M_few_120 (by decide) ?_
      refine zj_goto 125 d_M_few_121 rfl ?_
      refine zj_istore [some (zr g (some this)), some (.int a1), some (.int x7), some (.int x8), some (.int x11), some (.int 1), some (.int x16)] d_M_few_125 (by decide) rfl rfl ?_
      refine zj_iinc (v := (x16 + 1)) [some (zr g (some this)), some (.int a1), some (.int x7), some (.int x8), some (.int x11), some (.int 1), some (.int (x16 + 1))] d_M_few_127 rfl rfl (by decide) rfl rfl ?_
      refine zj_goto 87 d_M_few_130 rfl ?_
      exact hr14 1 (x16 + 1)
    refine zj_iload d_M_few_44 rfl ?_
    refine zj_iload_n d_M_few_46 rfl ?_
    refine zj_iload d_M_few_47 rfl ?_
    refine zj_ishr d_M_few_49 ?_
    refine zj_iconst 1 d_M_few_50 (by decide) ?_
    refine zj_iand d_M_few_51 ?_
    refine zj_if_ne 71 d_M_few_52 rfl (fun _ => ?_) (fun _ => ?_)
    · refine zj_iconst 0 d_M_few_71 (by decide) ?_
      refine zj_iadd d_M_few_72 ?_
      refine zj_istore [some (zr g (some this)), some (.int a1), some (.int x7), some (.int x8), some (.int (x11 + 0)), some (.int x12), none] d_M_few_73 (by decide) rfl rfl ?_
      refine zj_iinc (v := (x12 + 1)) [some (zr g (some this)), some (.int a1), some (.int x7), some (.int x8), some (.int (x11 + 0)), some (.int (x12 + 1)), none] d_M_few_75 rfl rfl (by decide) rfl rfl ?_
      refine zj_goto 35 d_M_few_78 rfl ?_
      exact hr10 (x11 + 0) (x12 + 1)
    refine zj_aload_n d_M_few_55 rfl ?_
    refine zj_getR fl_M_67 (fun _ _ _ _ => rfl) d_M_few_56 (fun v23 => ?_)
    refine zj_iload d_M_few_59 rfl ?_
    refine zj_iaload d_M_few_61 (fun v24 => ?_)
    refine zj_iload_n d_M_few_62 rfl ?_
    refine zj_iand d_M_few_63 ?_
    refine zj_if_eq 71 d_M_few_64 rfl (fun _ => ?_) (fun _ => ?_)
    · refine zj_iconst 0 d_M_few_71 (by decide) ?_
      refine zj_iadd d_M_few_72 ?_
      refine zj_istore [some (zr g (some this)), some (.int a1), some (.int x7), some (.int x8), some (.int (x11 + 0)), some (.int x12), none] d_M_few_73 (by decide) rfl rfl ?_
      refine zj_iinc (v := (x12 + 1)) [some (zr g (some this)), some (.int a1), some (.int x7), some (.int x8), some (.int (x11 + 0)), some (.int (x12 + 1)), none] d_M_few_75 rfl rfl (by decide) rfl rfl ?_
      refine zj_goto 35 d_M_few_78 rfl ?_
      exact hr10 (x11 + 0) (x12 + 1)
    refine zj_iconst 1 d_M_few_67 (by decide) ?_
    refine zj_goto 72 d_M_few_68 rfl ?_
    refine zj_iadd d_M_few_72 ?_
    refine zj_istore [some (zr g (some this)), some (.int a1), some (.int x7), some (.int x8), some (.int (x11 + 1)), some (.int x12), none] d_M_few_73 (by decide) rfl rfl ?_
    refine zj_iinc (v := (x12 + 1)) [some (zr g (some this)), some (.int a1), some (.int x7), some (.int x8), some (.int (x11 + 1)), some (.int (x12 + 1)), none] d_M_few_75 rfl rfl (by decide) rfl rfl ?_
    refine zj_goto 35 d_M_few_78 rfl ?_
    exact hr10 (x11 + 1) (x12 + 1)
  refine zj_bipush (-2) d_M_few_8 (by decide) ?_
  exact zj_iret rfl rfl rfl rfl d_M_few_10
def F_M_findComes (u0 : zS) (this : Nat) : Option (zS) := zfix2 (fun (r1 : zS → Int32 → Option (zS)) (u2 : zS) (x3 : Int32) => (zgI u2 9 (some this) 4).bind fun v4 => if v4 ≤ x3 then (some u2) else (zfix2 (fun (r5 : zS → Int32 → Option (zS)) (u6 : zS) (x7 : Int32) => (zgI u6 9 (some this) 1).bind fun v8 => if v8 ≤ x7 then (r1 u6 (x3 + 1)) else ((zgR u6 9 (some this) 33).bind fun v9 => (zob u6 9 (some this)).bind fun q12 => (F_M_wellOf u6 q12 x3 x7).bind <| zk fun v10 u11 => (zgR u11 9 (some this) 3).bind fun v13 => (zaI u11 .int v13 x7).bind fun v14 => (zsI u11 v9 (((6 : Int32) * x3) + x7) (v10 * v14)).bind fun u15 => r5 u15 (x7 + 1))) zFU u2 0)) zFU u0 0
set_option maxHeartbeats 4000000 in
set_option maxRecDepth 100000 in
theorem B_M_findComes (g : zG) (d : Nat) {u0 : zS} {this : Nat} {o : zS} (h : F_M_findComes u0 this = some o) : zMt g zy_M_findComes (d + 4) 0 0 [zr g (some this)] u0 none o := by
  refine zMt_of2 (ls := [some (zr g (some this)), none, none]) 2 (by decide +kernel) (by simp [lg_sl, zr_cat, zcI, zcJ]) (by simp [zal, zr_cat, zcI, zcJ, List.replicate]) ?_
  revert h
  show zJ g zy_M_findComes (d + 4) 0 0 zwV o 0 0 0 [some (zr g (some this)), none, none] [] u0 (F_M_findComes u0 this)
  unfold F_M_findComes
  refine zj_iconst 0 d_M_findComes_0 (by decide) ?_
  refine zj_istore_n [some (zr g (some this)), some (.int 0), none] d_M_findComes_1 (by decide) rfl rfl ?_
  refine zj_fix2 (fun u2 x3 => [some (zr g (some this)), some (.int x3), none]) (fun u2 x3 => u2) (fun r1 hr1 u2 x3 => ?_) u0 0
  refine zj_iload_n d_M_findComes_2 rfl ?_
  refine zj_aload_n d_M_findComes_3 rfl ?_
  refine zj_getI fl_M_113 (fun _ _ _ _ => rfl) d_M_findComes_4 (fun v4 => ?_)
  refine zj_icmp_ge 56 d_M_findComes_7 rfl (fun _ => ?_) (fun _ => ?_)
  · exact zj_vret rfl rfl rfl rfl d_M_findComes_56
  refine zj_iconst 0 d_M_findComes_10 (by decide) ?_
  refine zj_istore_n [some (zr g (some this)), some (.int x3), some (.int 0)] d_M_findComes_11 (by decide) rfl rfl ?_
  refine zj_fix2 (fun u6 x7 => [some (zr g (some this)), some (.int x3), some (.int x7)]) (fun u6 x7 => u6) (fun r5 hr5 u6 x7 => ?_) u2 0
  refine zj_iload_n d_M_findComes_12 rfl ?_
  refine zj_aload_n d_M_findComes_13 rfl ?_
  refine zj_getI fl_M_106 (fun _ _ _ _ => rfl) d_M_findComes_14 (fun v8 => ?_)
  refine zj_icmp_ge 50 d_M_findComes_17 rfl (fun _ => ?_) (fun _ => ?_)
  · refine zj_iinc (v := (x3 + 1)) [some (zr g (some this)), some (.int (x3 + 1)), some (.int x7)] d_M_findComes_50 rfl rfl (by decide) rfl rfl ?_
    refine zj_goto 2 d_M_findComes_53 rfl ?_
    refine zj_cut [some (zr g (some this)), some (.int (x3 + 1)), none] ⟨rfl, ⟨rfl, trivial⟩⟩ ?_
    exact hr1 u6 (x3 + 1)
  refine zj_aload_n d_M_findComes_20 rfl ?_
  refine zj_getR fl_M_70 (fun _ _ _ _ => rfl) d_M_findComes_21 (fun v9 => ?_)
  refine zj_bipush 6 d_M_findComes_24 (by decide) ?_
  refine zj_iload_n d_M_findComes_26 rfl ?_
  refine zj_imul d_M_findComes_27 ?_
  refine zj_iload_n d_M_findComes_28 rfl ?_
  refine zj_iadd d_M_findComes_29 ?_
  refine zj_aload_n d_M_findComes_30 rfl ?_
  refine zj_iload_n d_M_findComes_31 rfl ?_
  refine zj_iload_n d_M_findComes_32 rfl ?_
  refine zj_cVI (ci := 9) (T := zT9) (N := 53) [.int x3, .int x7] zm_V_M_wellOf ml_M_153 rfl (fun _ _ h => B_M_wellOf g (d) h) (Nat.le_refl _) ⟨Nat.zero_le _, Nat.zero_le _⟩ rfl rfl (by simp [zr_cat, zcI, zcJ]) d_M_findComes_33 (fun v10 u11 => ?_)
  refine zj_aload_n d_M_findComes_36 rfl ?_
  refine zj_getR fl_M_17 (fun _ _ _ _ => rfl) d_M_findComes_37 (fun v13 => ?_)
  refine zj_iload_n d_M_findComes_40 rfl ?_
  refine zj_iaload d_M_findComes_41 (fun v14 => ?_)
  refine zj_imul d_M_findComes_42 ?_
  refine zj_iastore d_M_findComes_43 (fun u15 => ?_)
  refine zj_iinc (v := (x7 + 1)) [some (zr g (some this)), some (.int x3), some (.int (x7 + 1))] d_M_findComes_44 rfl rfl (by decide) rfl rfl ?_
  refine zj_goto 12 d_M_findComes_47 rfl ?_
  exact hr5 u15 (x7 + 1)
def F_M_opens (u0 : zS) (this : Nat) : Option (Int32 × zS) := (zgI u0 9 (some this) 26).bind fun v1 => if v1 = 5 then ((zob u0 9 (some this)).bind fun q9 => (F_M_wrong u0 q9 ).bind fun u8 => some (0, u8)) else ((zgI u0 9 (some this) 26).bind fun v2 => (zpI u0 9 (some this) 26 (v2 + 1)).bind fun u3 => (zob u3 9 (some this)).bind fun q6 => (F_M_next u3 q6 ).bind fun u5 => some (1, u5))
set_option maxHeartbeats 4000000 in
set_option maxRecDepth 100000 in
theorem B_M_opens (g : zG) (d : Nat) {u0 : zS} {this : Nat} {o : Int32 × zS} (h : F_M_opens u0 this = some o) : zMt g zy_M_opens (d + 4) 0 0 [zr g (some this)] u0 (some (.int o.1)) o.2 := by
  refine zMt_of2 (ls := [some (zr g (some this))]) 0 (by decide +kernel) (by simp [lg_sl, zr_cat, zcI, zcJ]) (by simp [zal, zr_cat, zcI, zcJ, List.replicate]) ?_
  revert h
  show zJ g zy_M_opens (d + 4) 0 0 zwI o 0 0 0 [some (zr g (some this))] [] u0 (F_M_opens u0 this)
  unfold F_M_opens
  refine zj_aload_n d_M_opens_0 rfl ?_
  refine zj_getI fl_M_212 (fun _ _ _ _ => rfl) d_M_opens_1 (fun v1 => ?_)
  refine zj_iconst 5 d_M_opens_4 (by decide) ?_
  refine zj_icmp_ne 14 d_M_opens_5 rfl (fun _ => ?_) (fun _ => ?_)
  · refine zj_aload_n d_M_opens_14 rfl ?_
    refine zj_dup d_M_opens_15 (zr_cat _ _) ?_
    refine zj_getI fl_M_212 (fun _ _ _ _ => rfl) d_M_opens_16 (fun v2 => ?_)
    refine zj_iconst 1 d_M_opens_19 (by decide) ?_
    refine zj_iadd d_M_opens_20 ?_
    refine zj_putI fl_M_212 (fun _ _ _ _ => rfl) ⟨rfl, rfl⟩ d_M_opens_21 (fun u3 => ?_)
    refine zj_aload_n d_M_opens_24 rfl ?_
    refine zj_cVU (ci := 9) (T := zT9) (N := 53) [] zm_V_M_next ml_M_218 rfl (fun _ _ h => B_M_next g (d) h) (Nat.le_refl _) ⟨Nat.zero_le _, Nat.zero_le _⟩ rfl rfl (by decide) d_M_opens_25 (fun u5 => ?_)
    refine zj_iconst 1 d_M_opens_28 (by decide) ?_
    exact zj_zretL (by decide) rfl rfl rfl rfl d_M_opens_29
  refine zj_aload_n d_M_opens_8 rfl ?_
  refine zj_cVU (ci := 9) (T := zT9) (N := 53) [] zm_V_M_wrong ml_M_215 rfl (fun _ _ h => B_M_wrong g (d + 2) h) (Nat.le_refl _) ⟨Nat.zero_le _, Nat.zero_le _⟩ rfl rfl (by decide) d_M_opens_9 (fun u8 => ?_)
  refine zj_iconst 0 d_M_opens_12 (by decide) ?_
  exact zj_zretL (by decide) rfl rfl rfl rfl d_M_opens_13
def F_M_pay (u0 : zS) (this : Nat) (a1 : Int32) : Option (Int32 × zS) := if a1 = (-1) then (zfix3 (fun (r8 : zS → Int32 → Int32 → Option (Int32 × zS)) (u9 : zS) (x10 : Int32) (x11 : Int32) => (zgI u9 9 (some this) 4).bind fun v12 => if v12 ≤ x11 then (some (x10, u9)) else ((zob u9 9 (some this)).bind fun q15 => (F_M_payOf u9 q15 x11).bind <| zk fun v13 u14 => (zob u14 9 (some this)).bind fun q17 => (F_M_countsOf u14 q17 x11).bind fun v16 => r8 u14 (x10 + (v13 * v16)) (x11 + 1))) zFU u0 0 0) else ((zob u0 9 (some this)).bind fun q2 => (F_M_isPerson u0 q2 a1).bind fun v1 => if v1 = 0 then (some ((-2), u0)) else ((zob u0 9 (some this)).bind fun q5 => (F_M_payOf u0 q5 a1).bind <| zk fun v3 u4 => (zob u4 9 (some this)).bind fun q7 => (F_M_countsOf u4 q7 a1).bind fun v6 => some ((v3 * v6), u4)))
set_option maxHeartbeats 4000000 in
set_option maxRecDepth 100000 in
theorem B_M_pay (g : zG) (d : Nat) {u0 : zS} {this : Nat} {a1 : Int32} {o : Int32 × zS} (h : F_M_pay u0 this a1 = some o) : zMt g zy_M_pay (d + 4) 0 0 [zr g (some this), .int a1] u0 (some (.int o.1)) o.2 := by
  refine zMt_of2 (ls := [some (zr g (some this)), some (.int a1), none, none]) 2 (by decide +kernel) (by simp [lg_sl, zr_cat, zcI, zcJ]) (by simp [zal, zr_cat, zcI, zcJ, List.replicate]) ?_
  revert h
  show zJ g zy_M_pay (d + 4) 0 0 zwI o 0 0 0 [some (zr g (some this)), some (.int a1), none, none] [] u0 (F_M_pay u0 this a1)
  unfold F_M_pay
  refine zj_iload_n d_M_pay_0 rfl ?_
  refine zj_iconst (-1) d_M_pay_1 (by decide) ?_
  refine zj_icmp_ne 39 d_M_pay_2 rfl (fun _ => ?_) (fun _ => ?_)
  · refine zj_aload_n d_M_pay_39 rfl ?_
    refine zj_iload_n d_M_pay_40 rfl ?_
    refine zj_cVIp (ci := 9) (T := zT9) (N := 53) [.int a1] zm_V_M_isPerson ml_M_133 rfl (fun _ _ h => B_M_isPerson g (d + 1) h) (Nat.le_refl _) ⟨Nat.zero_le _, Nat.zero_le _⟩ rfl rfl (by decide) d_M_pay_41 (fun v1 => ?_)
    refine zj_if_eq 61 d_M_pay_44 rfl (fun _ => ?_) (fun _ => ?_)
    · refine zj_bipush (-2) d_M_pay_61 (by decide) ?_
      exact zj_iret rfl rfl rfl rfl d_M_pay_63
    refine zj_aload_n d_M_pay_47 rfl ?_
    refine zj_iload_n d_M_pay_48 rfl ?_
    refine zj_cVI (ci := 9) (T := zT9) (N := 53) [.int a1] zm_V_M_payOf ml_M_336 rfl (fun _ _ h => B_M_payOf g (d) h) (Nat.le_refl _) ⟨Nat.zero_le _, Nat.zero_le _⟩ rfl rfl (by decide) d_M_pay_49 (fun v3 u4 => ?_)
    refine zj_aload_n d_M_pay_52 rfl ?_
    refine zj_iload_n d_M_pay_53 rfl ?_
    refine zj_cVIp (ci := 9) (T := zT9) (N := 53) [.int a1] zm_V_M_countsOf ml_M_150 rfl (fun _ _ h => B_M_countsOf g (d) h) (Nat.le_refl _) ⟨Nat.zero_le _, Nat.zero_le _⟩ rfl rfl (by simp [zcI, zcJ]) d_M_pay_54 (fun v6 => ?_)
    refine zj_imul d_M_pay_57 ?_
    refine zj_goto 63 d_M_pay_58 rfl ?_
    exact zj_iret rfl rfl rfl rfl d_M_pay_63
  refine zj_iconst 0 d_M_pay_5 (by decide) ?_
  refine zj_istore_n [some (zr g (some this)), some (.int a1), some (.int 0), none] d_M_pay_6 (by decide) rfl rfl ?_
  refine zj_iconst 0 d_M_pay_7 (by decide) ?_
  refine zj_istore_n [some (zr g (some this)), some (.int a1), some (.int 0), some (.int 0)] d_M_pay_8 (by decide) rfl rfl ?_
  refine zj_cut [some (zr g (some this)), none, some (.int 0), some (.int 0)] ⟨rfl, ⟨rfl, ⟨rfl, trivial⟩⟩⟩ ?_
  refine zj_fix3 (fun u9 x10 x11 => [some (zr g (some this)), none, some (.int x10), some (.int x11)]) (fun u9 x10 x11 => u9) (fun r8 hr8 u9 x10 x11 => ?_) u0 0 0
  refine zj_iload_n d_M_pay_9 rfl ?_
  refine zj_aload_n d_M_pay_10 rfl ?_
  refine zj_getI fl_M_113 (fun _ _ _ _ => rfl) d_M_pay_11 (fun v12 => ?_)
  refine zj_icmp_ge 37 d_M_pay_14 rfl (fun _ => ?_) (fun _ => ?_)
  · refine zj_iload_n d_M_pay_37 rfl ?_
    exact zj_iret rfl rfl rfl rfl d_M_pay_38
  refine zj_iload_n d_M_pay_17 rfl ?_
  refine zj_aload_n d_M_pay_18 rfl ?_
  refine zj_iload_n d_M_pay_19 rfl ?_
  refine zj_cVI (ci := 9) (T := zT9) (N := 53) [.int x11] zm_V_M_payOf ml_M_336 rfl (fun _ _ h => B_M_payOf g (d) h) (Nat.le_refl _) ⟨Nat.zero_le _, Nat.zero_le _⟩ rfl rfl (by simp [zcI, zcJ]) d_M_pay_20 (fun v13 u14 => ?_)
  refine zj_aload_n d_M_pay_23 rfl ?_
  refine zj_iload_n d_M_pay_24 rfl ?_
  refine zj_cVIp (ci := 9) (T := zT9) (N := 53) [.int x11] zm_V_M_countsOf ml_M_150 rfl (fun _ _ h => B_M_countsOf g (d) h) (Nat.le_refl _) ⟨Nat.zero_le _, Nat.zero_le _⟩ rfl rfl (by simp [zcI, zcJ]) d_M_pay_25 (fun v16 => ?_)
  refine zj_imul d_M_pay_28 ?_
  refine zj_iadd d_M_pay_29 ?_
  refine zj_istore_n [some (zr g (some this)), none, some (.int (x10 + (v13 * v16))), some (.int x11)] d_M_pay_30 (by decide) rfl rfl ?_
  refine zj_iinc (v := (x11 + 1)) [some (zr g (some this)), none, some (.int (x10 + (v13 * v16))), some (.int (x11 + 1))] d_M_pay_31 rfl rfl (by decide) rfl rfl ?_
  refine zj_goto 9 d_M_pay_34 rfl ?_
  exact hr8 u14 (x10 + (v13 * v16)) (x11 + 1)
def F_M_person (u0 : zS) (this : Nat) (a1 : Int32) (a2 : Int32) : Option (Int32 × zS) := (zob u0 9 (some this)).bind fun q2 => (F_M_isOne u0 q2 a1 a2).bind fun v1 => if v1 = 0 then (some ((-2), u0)) else ((zgI u0 9 (some this) 4).bind fun v3 => if v3 = 7 then (some ((-4), u0)) else ((zgR u0 9 (some this) 5).bind fun v4 => (zgI u0 9 (some this) 4).bind fun v5 => (zsI u0 v4 v5 a1).bind fun u6 => (zgR u6 9 (some this) 6).bind fun v7 => (zgI u6 9 (some this) 4).bind fun v8 => (zsI u6 v7 v8 (a2 / 100)).bind fun u9 => (zgR u9 9 (some this) 7).bind fun v10 => (zgI u9 9 (some this) 4).bind fun v11 => (zsI u9 v10 v11 ((a2 / 10) - (a2 / 10) / 10 * 10)).bind fun u12 => (zgR u12 9 (some this) 8).bind fun v13 => (zgI u12 9 (some this) 4).bind fun v14 => (zsI u12 v13 v14 (a2 - a2 / 10 * 10)).bind fun u15 => (zgI u15 9 (some this) 4).bind fun v16 => (zpI u15 9 (some this) 4 (v16 + 1)).bind fun u17 => (zgI u17 9 (some this) 4).bind fun v18 => some ((v18 - 1), u17)))
set_option maxHeartbeats 4000000 in
set_option maxRecDepth 100000 in
theorem B_M_person (g : zG) (d : Nat) {u0 : zS} {this : Nat} {a1 : Int32} {a2 : Int32} {o : Int32 × zS} (h : F_M_person u0 this a1 a2 = some o) : zMt g zy_M_person (d + 4) 0 0 [zr g (some this), .int a1, .int a2] u0 (some (.int o.1)) o.2 := by
  refine zMt_of2 (ls := [some (zr g (some this)), some (.int a1), some (.int a2)]) 0 (by decide +kernel) (by simp [lg_sl, zr_cat, zcI, zcJ]) (by simp [zal, zr_cat, zcI, zcJ, List.replicate]) ?_
  revert h
  show zJ g zy_M_person (d + 4) 0 0 zwI o 0 0 0 [some (zr g (some this)), some (.int a1), some (.int a2)] [] u0 (F_M_person u0 this a1 a2)
  unfold F_M_person
  refine zj_aload_n d_M_person_0 rfl ?_
  refine zj_iload_n d_M_person_1 rfl ?_
  refine zj_iload_n d_M_person_2 rfl ?_
  refine zj_cVIp (ci := 9) (T := zT9) (N := 53) [.int a1, .int a2] zm_V_M_isOne ml_M_124 rfl (fun _ _ h => B_M_isOne g (d) h) (Nat.le_refl _) ⟨Nat.zero_le _, Nat.zero_le _⟩ rfl rfl (by decide) d_M_person_3 (fun v1 => ?_)
  refine zj_if_ne 12 d_M_person_6 rfl (fun _ => ?_) (fun _ => ?_)
  · refine zj_aload_n d_M_person_12 rfl ?_
    refine zj_getI fl_M_113 (fun _ _ _ _ => rfl) d_M_person_13 (fun v3 => ?_)
    refine zj_bipush 7 d_M_person_16 (by decide) ?_
    refine zj_icmp_ne 24 d_M_person_18 rfl (fun _ => ?_) (fun _ => ?_)
    · refine zj_aload_n d_M_person_24 rfl ?_
      refine zj_getR fl_M_21 (fun _ _ _ _ => rfl) d_M_person_25 (fun v4 => ?_)
      refine zj_aload_n d_M_person_28 rfl ?_
      refine zj_getI fl_M_113 (fun _ _ _ _ => rfl) d_M_person_29 (fun v5 => ?_)
      refine zj_iload_n d_M_person_32 rfl ?_
      refine zj_iastore d_M_person_33 (fun u6 => ?_)
      refine zj_aload_n d_M_person_34 rfl ?_
      refine zj_getR fl_M_24 (fun _ _ _ _ => rfl) d_M_person_35 (fun v7 => ?_)
      refine zj_aload_n d_M_person_38 rfl ?_
      refine zj_getI fl_M_113 (fun _ _ _ _ => rfl) d_M_person_39 (fun v8 => ?_)
      refine zj_iload_n d_M_person_42 rfl ?_
      refine zj_bipush 100 d_M_person_43 (by decide) ?_
      refine zj_idiv d_M_person_45 (by decide) ?_
      refine zj_iastore d_M_person_46 (fun u9 => ?_)
      refine zj_aload_n d_M_person_47 rfl ?_
      refine zj_getR fl_M_27 (fun _ _ _ _ => rfl) d_M_person_48 (fun v10 => ?_)
      refine zj_aload_n d_M_person_51 rfl ?_
      refine zj_getI fl_M_113 (fun _ _ _ _ => rfl) d_M_person_52 (fun v11 => ?_)
      refine zj_iload_n d_M_person_55 rfl ?_
      refine zj_bipush 10 d_M_person_56 (by decide) ?_
      refine zj_idiv d_M_person_58 (by decide) ?_
      refine zj_bipush 10 d_M_person_59 (by decide) ?_
      refine zj_irem d_M_person_61 (by decide) ?_
      refine zj_iastore d_M_person_62 (fun u12 => ?_)
      refine zj_aload_n d_M_person_63 rfl ?_
      refine zj_getR fl_M_30 (fun _ _ _ _ => rfl) d_M_person_64 (fun v13 => ?_)
      refine zj_aload_n d_M_person_67 rfl ?_
      refine zj_getI fl_M_113 (fun _ _ _ _ => rfl) d_M_person_68 (fun v14 => ?_)
      refine zj_iload_n d_M_person_71 rfl ?_
      refine zj_bipush 10 d_M_person_72 (by decide) ?_
      refine zj_irem d_M_person_74 (by decide) ?_
      refine zj_iastore d_M_person_75 (fun u15 => ?_)
      refine zj_aload_n d_M_person_76 rfl ?_
      refine zj_dup d_M_person_77 (zr_cat _ _) ?_
      refine zj_getI fl_M_113 (fun _ _ _ _ => rfl) d_M_person_78 (fun v16 => ?_)
      refine zj_iconst 1 d_M_person_81 (by decide) ?_
      refine zj_iadd d_M_person_82 ?_
      refine zj_putI fl_M_113 (fun _ _ _ _ => rfl) ⟨rfl, rfl⟩ d_M_person_83 (fun u17 => ?_)
      refine zj_aload_n d_M_person_86 rfl ?_
      refine zj_getI fl_M_113 (fun _ _ _ _ => rfl) d_M_person_87 (fun v18 => ?_)
      refine zj_iconst 1 d_M_person_90 (by decide) ?_
      refine zj_isub d_M_person_91 ?_
      exact zj_iret rfl rfl rfl rfl d_M_person_92
    refine zj_bipush (-4) d_M_person_21 (by decide) ?_
    exact zj_iret rfl rfl rfl rfl d_M_person_23
  refine zj_bipush (-2) d_M_person_9 (by decide) ?_
  exact zj_iret rfl rfl rfl rfl d_M_person_11
def F_M_sum (rec : Nat → zS → Nat → Option zS) (u0 : zS) (this : Nat) : Option (zS) := (zob u0 9 (some this)).bind fun q3 => (rec 1 u0 q3 ).bind fun u2 => zfix1 (fun (r4 : zS → Option (zS)) (u5 : zS) => (zob u5 9 (some this)).bind fun q7 => (F_M_isSign u5 q7 43).bind fun v6 => if v6 = 0 then ((zob u5 9 (some this)).bind fun q19 => (F_M_isSign u5 q19 45).bind fun v18 => if v18 = 0 then (some u5) else ((zgI u5 9 (some this) 25).bind fun v20 => (zob u5 9 (some this)).bind fun q23 => (F_M_next u5 q23 ).bind fun u22 => (zob u22 9 (some this)).bind fun q26 => (rec 1 u22 q26 ).bind fun u25 => (zob u25 9 (some this)).bind fun q29 => (F_M_lay u25 q29 ((-100 : Int32) - v20)).bind fun u28 => r4 u28)) else ((zgI u5 9 (some this) 25).bind fun v8 => (zob u5 9 (some this)).bind fun q11 => (F_M_next u5 q11 ).bind fun u10 => (zob u10 9 (some this)).bind fun q14 => (rec 1 u10 q14 ).bind fun u13 => (zob u13 9 (some this)).bind fun q17 => (F_M_lay u13 q17 ((-100 : Int32) - v8)).bind fun u16 => r4 u16)) zFU u2
set_option maxHeartbeats 4000000 in
set_option maxRecDepth 100000 in
theorem B_M_sum (g : zG) (d : Nat) (hdd : 8 ≤ d) {rec : Nat → zS → Nat → Option zS} (hrec_one : ∀ {u0 : zS} {this : Nat} {o : zS}, rec 0 u0 this = some o → zMt g zy_M_one d 0 0 [zr g (some this)] u0 none o) (hrec_term : ∀ {u0 : zS} {this : Nat} {o : zS}, rec 1 u0 this = some o → zMt g zy_M_term d 0 0 [zr g (some this)] u0 none o) (hrec_sum : ∀ {u0 : zS} {this : Nat} {o : zS}, rec 2 u0 this = some o → zMt g zy_M_sum d 0 0 [zr g (some this)] u0 none o) (hrec_not : ∀ {u0 : zS} {this : Nat} {o : zS}, rec 3 u0 this = some o → zMt g zy_M_not d 0 0 [zr g (some this)] u0 none o) (hrec_both : ∀ {u0 : zS} {this : Nat} {o : zS}, rec 4 u0 this = some o → zMt g zy_M_both d 0 0 [zr g (some this)] u0 none o) (hrec_either : ∀ {u0 : zS} {this : Nat} {o : zS}, rec 5 u0 this = some o → zMt g zy_M_either d 0 0 [zr g (some this)] u0 none o) {u0 : zS} {this : Nat} {o : zS} (h : F_M_sum rec u0 this = some o) : zMt g zy_M_sum (d + 1) 0 0 [zr g (some this)] u0 none o := by
  refine zMt_of2 (ls := [some (zr g (some this)), none]) 1 (by decide +kernel) (by simp [lg_sl, zr_cat, zcI, zcJ]) (by simp [zal, zr_cat, zcI, zcJ, List.replicate]) ?_
  revert h
  show zJ g zy_M_sum (d + 1) 0 0 zwV o 0 0 0 [some (zr g (some this)), none] [] u0 (F_M_sum rec u0 this)
  unfold F_M_sum
  refine zj_aload_n d_M_sum_0 rfl ?_
  refine zj_cVU (ci := 9) (T := zT9) (N := 53) [] zm_V_M_term ml_M_238 rfl (fun _ _ h => hrec_term h) (Nat.le_refl _) ⟨Nat.zero_le _, Nat.zero_le _⟩ rfl rfl (by decide) d_M_sum_1 (fun u2 => ?_)
  refine zj_fix1 (fun u5 => [some (zr g (some this)), none]) (fun u5 => u5) (fun r4 hr4 u5 => ?_) u2
  refine zj_aload_n d_M_sum_4 rfl ?_
  refine zj_bipush 43 d_M_sum_5 (by decide) ?_
  refine zj_cVIp (ci := 9) (T := zT9) (N := 53) [.int 43] zm_V_M_isSign ml_M_225 rfl (fun _ _ h => B_M_isSign g (d - 1) h) (by omega) ⟨Nat.zero_le _, Nat.zero_le _⟩ rfl rfl (by decide) d_M_sum_7 (fun v6 => ?_)
  refine zj_if_ne 22 d_M_sum_10 rfl (fun _ => ?_) (fun _ => ?_)
  · refine zj_aload_n d_M_sum_22 rfl ?_
    refine zj_getI fl_M_193 (fun _ _ _ _ => rfl) d_M_sum_23 (fun v8 => ?_)
    refine zj_istore_n [some (zr g (some this)), some (.int v8)] d_M_sum_26 (by decide) rfl rfl ?_
    refine zj_aload_n d_M_sum_27 rfl ?_
    refine zj_cVU (ci := 9) (T := zT9) (N := 53) [] zm_V_M_next ml_M_218 rfl (fun _ _ h => B_M_next g (d - 3) h) (by omega) ⟨Nat.zero_le _, Nat.zero_le _⟩ rfl rfl (by decide) d_M_sum_28 (fun u10 => ?_)
    refine zj_aload_n d_M_sum_31 rfl ?_
    refine zj_cVU (ci := 9) (T := zT9) (N := 53) [] zm_V_M_term ml_M_238 rfl (fun _ _ h => hrec_term h) (Nat.le_refl _) ⟨Nat.zero_le _, Nat.zero_le _⟩ rfl rfl (by decide) d_M_sum_32 (fun u13 => ?_)
    refine zj_aload_n d_M_sum_35 rfl ?_
    refine zj_bipush (-100) d_M_sum_36 (by decide) ?_
    refine zj_iload_n d_M_sum_38 rfl ?_
    refine zj_isub d_M_sum_39 ?_
    refine zj_cVU (ci := 9) (T := zT9) (N := 53) [.int ((-100 : Int32) - v8)] zm_V_M_lay ml_M_221 rfl (fun _ _ h => B_M_lay g (d - 1) h) (by omega) ⟨Nat.zero_le _, Nat.zero_le _⟩ rfl rfl (by decide) d_M_sum_40 (fun u16 => ?_)
    refine zj_goto 4 d_M_sum_43 rfl ?_
    refine zj_cut [some (zr g (some this)), none] ⟨rfl, trivial⟩ ?_
    exact hr4 u16
  refine zj_aload_n d_M_sum_13 rfl ?_
  refine zj_bipush 45 d_M_sum_14 (by decide) ?_
  refine zj_cVIp (ci := 9) (T := zT9) (N := 53) [.int 45] zm_V_M_isSign ml_M_225 rfl (fun _ _ h => B_M_isSign g (d - 1) h) (by omega) ⟨Nat.zero_le _, Nat.zero_le _⟩ rfl rfl (by decide) d_M_sum_16 (fun v18 => ?_)
  refine zj_if_eq 46 d_M_sum_19 rfl (fun _ => ?_) (fun _ => ?_)
  · exact zj_vret rfl rfl rfl rfl d_M_sum_46
  refine zj_aload_n d_M_sum_22 rfl ?_
  refine zj_getI fl_M_193 (fun _ _ _ _ => rfl) d_M_sum_23 (fun v20 => ?_)
  refine zj_istore_n [some (zr g (some this)), some (.int v20)] d_M_sum_26 (by decide) rfl rfl ?_
  refine zj_aload_n d_M_sum_27 rfl ?_
  refine zj_cVU (ci := 9) (T := zT9) (N := 53) [] zm_V_M_next ml_M_218 rfl (fun _ _ h => B_M_next g (d - 3) h) (by omega) ⟨Nat.zero_le _, Nat.zero_le _⟩ rfl rfl (by decide) d_M_sum_28 (fun u22 => ?_)
  refine zj_aload_n d_M_sum_31 rfl ?_
  refine zj_cVU (ci := 9) (T := zT9) (N := 53) [] zm_V_M_term ml_M_238 rfl (fun _ _ h => hrec_term h) (Nat.le_refl _) ⟨Nat.zero_le _, Nat.zero_le _⟩ rfl rfl (by decide) d_M_sum_32 (fun u25 => ?_)
  refine zj_aload_n d_M_sum_35 rfl ?_
  refine zj_bipush (-100) d_M_sum_36 (by decide) ?_
  refine zj_iload_n d_M_sum_38 rfl ?_
  refine zj_isub d_M_sum_39 ?_
  refine zj_cVU (ci := 9) (T := zT9) (N := 53) [.int ((-100 : Int32) - v20)] zm_V_M_lay ml_M_221 rfl (fun _ _ h => B_M_lay g (d - 1) h) (by omega) ⟨Nat.zero_le _, Nat.zero_le _⟩ rfl rfl (by decide) d_M_sum_40 (fun u28 => ?_)
  refine zj_goto 4 d_M_sum_43 rfl ?_
  refine zj_cut [some (zr g (some this)), none] ⟨rfl, trivial⟩ ?_
  exact hr4 u28
def F_M_term (rec : Nat → zS → Nat → Option zS) (u0 : zS) (this : Nat) : Option (zS) := (zob u0 9 (some this)).bind fun q3 => (rec 0 u0 q3 ).bind fun u2 => zfix1 (fun (r4 : zS → Option (zS)) (u5 : zS) => (zob u5 9 (some this)).bind fun q7 => (F_M_isSign u5 q7 42).bind fun v6 => if v6 = 0 then (some u5) else ((zob u5 9 (some this)).bind fun q10 => (F_M_next u5 q10 ).bind fun u9 => (zob u9 9 (some this)).bind fun q13 => (rec 0 u9 q13 ).bind fun u12 => (zob u12 9 (some this)).bind fun q16 => (F_M_lay u12 q16 (-142)).bind fun u15 => r4 u15)) zFU u2
set_option maxHeartbeats 4000000 in
set_option maxRecDepth 100000 in
theorem B_M_term (g : zG) (d : Nat) (hdd : 8 ≤ d) {rec : Nat → zS → Nat → Option zS} (hrec_one : ∀ {u0 : zS} {this : Nat} {o : zS}, rec 0 u0 this = some o → zMt g zy_M_one d 0 0 [zr g (some this)] u0 none o) (hrec_term : ∀ {u0 : zS} {this : Nat} {o : zS}, rec 1 u0 this = some o → zMt g zy_M_term d 0 0 [zr g (some this)] u0 none o) (hrec_sum : ∀ {u0 : zS} {this : Nat} {o : zS}, rec 2 u0 this = some o → zMt g zy_M_sum d 0 0 [zr g (some this)] u0 none o) (hrec_not : ∀ {u0 : zS} {this : Nat} {o : zS}, rec 3 u0 this = some o → zMt g zy_M_not d 0 0 [zr g (some this)] u0 none o) (hrec_both : ∀ {u0 : zS} {this : Nat} {o : zS}, rec 4 u0 this = some o → zMt g zy_M_both d 0 0 [zr g (some this)] u0 none o) (hrec_either : ∀ {u0 : zS} {this : Nat} {o : zS}, rec 5 u0 this = some o → zMt g zy_M_either d 0 0 [zr g (some this)] u0 none o) {u0 : zS} {this : Nat} {o : zS} (h : F_M_term rec u0 this = some o) : zMt g zy_M_term (d + 1) 0 0 [zr g (some this)] u0 none o := by
  refine zMt_of2 (ls := [some (zr g (some this))]) 0 (by decide +kernel) (by simp [lg_sl, zr_cat, zcI, zcJ]) (by simp [zal, zr_cat, zcI, zcJ, List.replicate]) ?_
  revert h
  show zJ g zy_M_term (d + 1) 0 0 zwV o 0 0 0 [some (zr g (some this))] [] u0 (F_M_term rec u0 this)
  unfold F_M_term
  refine zj_aload_n d_M_term_0 rfl ?_
  refine zj_cVU (ci := 9) (T := zT9) (N := 53) [] zm_V_M_one ml_M_232 rfl (fun _ _ h => hrec_one h) (Nat.le_refl _) ⟨Nat.zero_le _, Nat.zero_le _⟩ rfl rfl (by decide) d_M_term_1 (fun u2 => ?_)
  refine zj_fix1 (fun u5 => [some (zr g (some this))]) (fun u5 => u5) (fun r4 hr4 u5 => ?_) u2
  refine zj_aload_n d_M_term_4 rfl ?_
  refine zj_bipush 42 d_M_term_5 (by decide) ?_
  refine zj_cVIp (ci := 9) (T := zT9) (N := 53) [.int 42] zm_V_M_isSign ml_M_225 rfl (fun _ _ h => B_M_isSign g (d - 1) h) (by omega) ⟨Nat.zero_le _, Nat.zero_le _⟩ rfl rfl (by decide) d_M_term_7 (fun v6 => ?_)
  refine zj_if_eq 31 d_M_term_10 rfl (fun _ => ?_) (fun _ => ?_)
  · exact zj_vret rfl rfl rfl rfl d_M_term_31
  refine zj_aload_n d_M_term_13 rfl ?_
  refine zj_cVU (ci := 9) (T := zT9) (N := 53) [] zm_V_M_next ml_M_218 rfl (fun _ _ h => B_M_next g (d - 3) h) (by omega) ⟨Nat.zero_le _, Nat.zero_le _⟩ rfl rfl (by decide) d_M_term_14 (fun u9 => ?_)
  refine zj_aload_n d_M_term_17 rfl ?_
  refine zj_cVU (ci := 9) (T := zT9) (N := 53) [] zm_V_M_one ml_M_232 rfl (fun _ _ h => hrec_one h) (Nat.le_refl _) ⟨Nat.zero_le _, Nat.zero_le _⟩ rfl rfl (by decide) d_M_term_18 (fun u12 => ?_)
  refine zj_aload_n d_M_term_21 rfl ?_
  refine zj_sipush (-142) d_M_term_22 (by decide) ?_
  refine zj_cVU (ci := 9) (T := zT9) (N := 53) [.int (-142)] zm_V_M_lay ml_M_221 rfl (fun _ _ h => B_M_lay g (d - 1) h) (by omega) ⟨Nat.zero_le _, Nat.zero_le _⟩ rfl rfl (by decide) d_M_term_25 (fun u15 => ?_)
  refine zj_goto 4 d_M_term_28 rfl ?_
  exact hr4 u15
def F_M_told (u0 : zS) (this : Nat) (a1 : Int32) (a2 : Int32) (a3 : Int32) : Option (Int32 × zS) := (zob u0 9 (some this)).bind fun q2 => (F_M_isPerson u0 q2 a1).bind fun v1 => if v1 = 0 then (some ((-5), u0)) else ((F_M_in u0 ((a3 : Int32).toInt64) 0 9).bind fun v3 => if v3 = 0 then (some ((-5), u0)) else (if a3 ≤ 6 then (if a3 = 0 then ((zgR u0 9 (some this) 5).bind fun v5 => (zaI u0 .int v5 a1).bind fun v6 => some (v6, u0)) else if a3 = 1 then ((zgR u0 9 (some this) 6).bind fun v8 => (zaI u0 .int v8 a1).bind fun v9 => some (v9, u0)) else if a3 = 2 then ((zgR u0 9 (some this) 7).bind fun v11 => (zaI u0 .int v11 a1).bind fun v12 => some (v12, u0)) else if a3 = 3 then ((zgR u0 9 (some this) 8).bind fun v14 => (zaI u0 .int v14 a1).bind fun v15 => some (v15, u0)) else if a3 = 4 then ((zob u0 9 (some this)).bind fun q18 => (F_M_keeps u0 q18 a1).bind fun v17 => some (v17, u0)) else if a3 = 5 then ((zob u0 9 (some this)).bind fun q21 => (F_M_countsOf u0 q21 a1).bind fun v20 => some (v20, u0)) else if a3 = 6 then ((zgR u0 9 (some this) 9).bind fun v23 => (zaI u0 .int v23 a1).bind fun v24 => some (v24, u0)) else if a3 = 7 then ((zob u0 9 (some this)).bind fun q27 => (F_M_canDo u0 q27 a1 a2).bind fun v26 => if v26 = 0 then (some (0, u0)) else (some (1, u0))) else if a3 = 8 then ((zob u0 9 (some this)).bind fun q31 => (F_M_wellOf u0 q31 a1 a2).bind <| zk fun v29 u30 => some (v29, u30)) else ((zob u0 9 (some this)).bind fun q34 => (F_M_costOf u0 q34 a1 a2).bind <| zk fun v32 u33 => some (v32, u33))) else ((zob u0 9 (some this)).bind fun q36 => (F_M_isPost u0 q36 a2).bind fun v35 => if v35 = 0 then (some ((-5), u0)) else (if a3 = 0 then ((zgR u0 9 (some this) 5).bind fun v38 => (zaI u0 .int v38 a1).bind fun v39 => some (v39, u0)) else if a3 = 1 then ((zgR u0 9 (some this) 6).bind fun v41 => (zaI u0 .int v41 a1).bind fun v42 => some (v42, u0)) else if a3 = 2 then ((zgR u0 9 (some this) 7).bind fun v44 => (zaI u0 .int v44 a1).bind fun v45 => some (v45, u0)) else if a3 = 3 then ((zgR u0 9 (some this) 8).bind fun v47 => (zaI u0 .int v47 a1).bind fun v48 => some (v48, u0)) else if a3 = 4 then ((zob u0 9 (some this)).bind fun q51 => (F_M_keeps u0 q51 a1).bind fun v50 => some (v50, u0)) else if a3 = 5 then ((zob u0 9 (some this)).bind fun q54 => (F_M_countsOf u0 q54 a1).bind fun v53 => some (v53, u0)) else if a3 = 6 then ((zgR u0 9 (some this) 9).bind fun v56 => (zaI u0 .int v56 a1).bind fun v57 => some (v57, u0)) else if a3 = 7 then ((zob u0 9 (some this)).bind fun q60 => (F_M_canDo u0 q60 a1 a2).bind fun v59 => if v59 = 0 then (some (0, u0)) else (some (1, u0))) else if a3 = 8 then ((zob u0 9 (some this)).bind fun q64 => (F_M_wellOf u0 q64 a1 a2).bind <| zk fun v62 u63 => some (v62, u63)) else ((zob u0 9 (some this)).bind fun q67 => (F_M_costOf u0 q67 a1 a2).bind <| zk fun v65 u66 => some (v65, u66))))))
set_option maxHeartbeats 4000000 in
set_option maxRecDepth 100000 in
theorem B_M_told (g : zG) (d : Nat) {u0 : zS} {this : Nat} {a1 : Int32} {a2 : Int32} {a3 : Int32} {o : Int32 × zS} (h : F_M_told u0 this a1 a2 a3 = some o) : zMt g zy_M_told (d + 4) 0 0 [zr g (some this), .int a1, .int a2, .int a3] u0 (some (.int o.1)) o.2 := by
  refine zMt_of2 (ls := [some (zr g (some this)), some (.int a1), some (.int a2), some (.int a3)]) 0 (by decide +kernel) (by simp [lg_sl, zr_cat, zcI, zcJ]) (by simp [zal, zr_cat, zcI, zcJ, List.replicate]) ?_
  revert h
  show zJ g zy_M_told (d + 4) 0 0 zwI o 0 0 0 [some (zr g (some this)), some (.int a1), some (.int a2), some (.int a3)] [] u0 (F_M_told u0 this a1 a2 a3)
  unfold F_M_told
  refine zj_aload_n d_M_told_0 rfl ?_
  refine zj_iload_n d_M_told_1 rfl ?_
  refine zj_cVIp (ci := 9) (T := zT9) (N := 53) [.int a1] zm_V_M_isPerson ml_M_133 rfl (fun _ _ h => B_M_isPerson g (d + 1) h) (Nat.le_refl _) ⟨Nat.zero_le _, Nat.zero_le _⟩ rfl rfl (by decide) d_M_told_2 (fun v1 => ?_)
  refine zj_if_eq 34 d_M_told_5 rfl (fun _ => ?_) (fun _ => ?_)
  · refine zj_bipush (-5) d_M_told_34 (by decide) ?_
    exact zj_iret rfl rfl rfl rfl d_M_told_36
  refine zj_iload_n d_M_told_8 rfl ?_
  refine zj_i2l d_M_told_9 ?_
  refine zj_lconst 0 d_M_told_10 (by decide) ?_
  refine zj_ldc2 cl_M_128 d_M_told_11 ?_
  refine zj_cSIp [.long ((a3 : Int32).toInt64), .long 0, .long 9] zm_S_M_in ml_M_109 (fun _ h => B_M_in g (d + 2) h) (Nat.le_refl _) ⟨Nat.zero_le _, Nat.zero_le _⟩ rfl rfl (by decide) d_M_told_14 (fun v3 => ?_)
  refine zj_if_eq 34 d_M_told_17 rfl (fun _ => ?_) (fun _ => ?_)
  · refine zj_bipush (-5) d_M_told_34 (by decide) ?_
    exact zj_iret rfl rfl rfl rfl d_M_told_36
  refine zj_iload_n d_M_told_20 rfl ?_
  refine zj_bipush 6 d_M_told_21 (by decide) ?_
  refine zj_icmp_le 37 d_M_told_23 rfl (fun _ => ?_) (fun _ => ?_)
  · refine zj_iload_n d_M_told_37 rfl ?_
    refine zj_tsw 0 (0) 88 d_M_told_38 (by decide) (by decide) (by decide) rfl rfl (fun _ => ?_) (fun h4 => ?_)
    · refine zj_aload_n d_M_told_88 rfl ?_
      refine zj_getR fl_M_21 (fun _ _ _ _ => rfl) d_M_told_89 (fun v5 => ?_)
      refine zj_iload_n d_M_told_92 rfl ?_
      refine zj_iaload d_M_told_93 (fun v6 => ?_)
      exact zj_iret rfl rfl rfl rfl d_M_told_94
    refine zj_tsw 1 (1) 95 d_M_told_38 (by decide) (by decide) (by decide) rfl rfl (fun _ => ?_) (fun h7 => ?_)
    · refine zj_aload_n d_M_told_95 rfl ?_
      refine zj_getR fl_M_24 (fun _ _ _ _ => rfl) d_M_told_96 (fun v8 => ?_)
      refine zj_iload_n d_M_told_99 rfl ?_
      refine zj_iaload d_M_told_100 (fun v9 => ?_)
      exact zj_iret rfl rfl rfl rfl d_M_told_101
    refine zj_tsw 2 (2) 102 d_M_told_38 (by decide) (by decide) (by decide) rfl rfl (fun _ => ?_) (fun h10 => ?_)
    · refine zj_aload_n d_M_told_102 rfl ?_
      refine zj_getR fl_M_27 (fun _ _ _ _ => rfl) d_M_told_103 (fun v11 => ?_)
      refine zj_iload_n d_M_told_106 rfl ?_
      refine zj_iaload d_M_told_107 (fun v12 => ?_)
      exact zj_iret rfl rfl rfl rfl d_M_told_108
    refine zj_tsw 3 (3) 109 d_M_told_38 (by decide) (by decide) (by decide) rfl rfl (fun _ => ?_) (fun h13 => ?_)
    · refine zj_aload_n d_M_told_109 rfl ?_
      refine zj_getR fl_M_30 (fun _ _ _ _ => rfl) d_M_told_110 (fun v14 => ?_)
      refine zj_iload_n d_M_told_113 rfl ?_
      refine zj_iaload d_M_told_114 (fun v15 => ?_)
      exact zj_iret rfl rfl rfl rfl d_M_told_115
    refine zj_tsw 4 (4) 116 d_M_told_38 (by decide) (by decide) (by decide) rfl rfl (fun _ => ?_) (fun h16 => ?_)
    · refine zj_aload_n d_M_told_116 rfl ?_
      refine zj_iload_n d_M_told_117 rfl ?_
      refine zj_cVIp (ci := 9) (T := zT9) (N := 53) [.int a1] zm_V_M_keeps ml_M_144 rfl (fun _ _ h => B_M_keeps g (d + 2) h) (Nat.le_refl _) ⟨Nat.zero_le _, Nat.zero_le _⟩ rfl rfl (by decide) d_M_told_118 (fun v17 => ?_)
      exact zj_iret rfl rfl rfl rfl d_M_told_121
    refine zj_tsw 5 (5) 122 d_M_told_38 (by decide) (by decide) (by decide) rfl rfl (fun _ => ?_) (fun h19 => ?_)
    · refine zj_aload_n d_M_told_122 rfl ?_
      refine zj_iload_n d_M_told_123 rfl ?_
      refine zj_cVIp (ci := 9) (T := zT9) (N := 53) [.int a1] zm_V_M_countsOf ml_M_150 rfl (fun _ _ h => B_M_countsOf g (d) h) (Nat.le_refl _) ⟨Nat.zero_le _, Nat.zero_le _⟩ rfl rfl (by decide) d_M_told_124 (fun v20 => ?_)
      exact zj_iret rfl rfl rfl rfl d_M_told_127
    refine zj_tsw 6 (6) 128 d_M_told_38 (by decide) (by decide) (by decide) rfl rfl (fun _ => ?_) (fun h22 => ?_)
    · refine zj_aload_n d_M_told_128 rfl ?_
      refine zj_getR fl_M_33 (fun _ _ _ _ => rfl) d_M_told_129 (fun v23 => ?_)
      refine zj_iload_n d_M_told_132 rfl ?_
      refine zj_iaload d_M_told_133 (fun v24 => ?_)
      exact zj_iret rfl rfl rfl rfl d_M_told_134
    refine zj_tsw 7 (7) 135 d_M_told_38 (by decide) (by decide) (by decide) rfl rfl (fun _ => ?_) (fun h25 => ?_)
    · refine zj_aload_n d_M_told_135 rfl ?_
      refine zj_iload_n d_M_told_136 rfl ?_
      refine zj_iload_n d_M_told_137 rfl ?_
      refine zj_cVIp (ci := 9) (T := zT9) (N := 53) [.int a1, .int a2] zm_V_M_canDo ml_M_147 rfl (fun _ _ h => B_M_canDo g (d + 1) h) (Nat.le_refl _) ⟨Nat.zero_le _, Nat.zero_le _⟩ rfl rfl (by decide) d_M_told_138 (fun v26 => ?_)
      refine zj_if_eq 148 d_M_told_141 rfl (fun _ => ?_) (fun _ => ?_)
      · refine zj_iconst 0 d_M_told_148 (by decide) ?_
        exact zj_iret rfl rfl rfl rfl d_M_told_149
      refine zj_iconst 1 d_M_told_144 (by decide) ?_
      refine zj_goto 149 d_M_told_145 rfl ?_
      exact zj_iret rfl rfl rfl rfl d_M_told_149
    refine zj_tsw 8 (8) 150 d_M_told_38 (by decide) (by decide) (by decide) rfl rfl (fun _ => ?_) (fun h28 => ?_)
    · refine zj_aload_n d_M_told_150 rfl ?_
      refine zj_iload_n d_M_told_151 rfl ?_
      refine zj_iload_n d_M_told_152 rfl ?_
      refine zj_cVI (ci := 9) (T := zT9) (N := 53) [.int a1, .int a2] zm_V_M_wellOf ml_M_153 rfl (fun _ _ h => B_M_wellOf g (d) h) (Nat.le_refl _) ⟨Nat.zero_le _, Nat.zero_le _⟩ rfl rfl (by decide) d_M_told_153 (fun v29 u30 => ?_)
      exact zj_iret rfl rfl rfl rfl d_M_told_156
    refine zj_tswD 157 d_M_told_38 (by have e0 := lv_neT h4 (show (0 : Int32).toInt = 0 by decide); have e1 := lv_neT h7 (show (1 : Int32).toInt = 1 by decide); have e2 := lv_neT h10 (show (2 : Int32).toInt = 2 by decide); have e3 := lv_neT h13 (show (3 : Int32).toInt = 3 by decide); have e4 := lv_neT h16 (show (4 : Int32).toInt = 4 by decide); have e5 := lv_neT h19 (show (5 : Int32).toInt = 5 by decide); have e6 := lv_neT h22 (show (6 : Int32).toInt = 6 by decide); have e7 := lv_neT h25 (show (7 : Int32).toInt = 7 by decide); have e8 := lv_neT h28 (show (8 : Int32).toInt = 8 by decide); omega) rfl ?_
    refine zj_aload_n d_M_told_157 rfl ?_
    refine zj_iload_n d_M_told_158 rfl ?_
    refine zj_iload_n d_M_told_159 rfl ?_
    refine zj_cVI (ci := 9) (T := zT9) (N := 53) [.int a1, .int a2] zm_V_M_costOf ml_M_156 rfl (fun _ _ h => B_M_costOf g (d) h) (Nat.le_refl _) ⟨Nat.zero_le _, Nat.zero_le _⟩ rfl rfl (by decide) d_M_told_160 (fun v32 u33 => ?_)
    exact zj_iret rfl rfl rfl rfl d_M_told_163
  refine zj_aload_n d_M_told_26 rfl ?_
  refine zj_iload_n d_M_told_27 rfl ?_
  refine zj_cVIp (ci := 9) (T := zT9) (N := 53) [.int a2] zm_V_M_isPost ml_M_120 rfl (fun _ _ h => B_M_isPost g (d + 1) h) (Nat.le_refl _) ⟨Nat.zero_le _, Nat.zero_le _⟩ rfl rfl (by decide) d_M_told_28 (fun v35 => ?_)
  refine zj_if_ne 37 d_M_told_31 rfl (fun _ => ?_) (fun _ => ?_)
  · refine zj_iload_n d_M_told_37 rfl ?_
    refine zj_tsw 0 (0) 88 d_M_told_38 (by decide) (by decide) (by decide) rfl rfl (fun _ => ?_) (fun h37 => ?_)
    · refine zj_aload_n d_M_told_88 rfl ?_
      refine zj_getR fl_M_21 (fun _ _ _ _ => rfl) d_M_told_89 (fun v38 => ?_)
      refine zj_iload_n d_M_told_92 rfl ?_
      refine zj_iaload d_M_told_93 (fun v39 => ?_)
      exact zj_iret rfl rfl rfl rfl d_M_told_94
    refine zj_tsw 1 (1) 95 d_M_told_38 (by decide) (by decide) (by decide) rfl rfl (fun _ => ?_) (fun h40 => ?_)
    · refine zj_aload_n d_M_told_95 rfl ?_
      refine zj_getR fl_M_24 (fun _ _ _ _ => rfl) d_M_told_96 (fun v41 => ?_)
      refine zj_iload_n d_M_told_99 rfl ?_
      refine zj_iaload d_M_told_100 (fun v42 => ?_)
      exact zj_iret rfl rfl rfl rfl d_M_told_101
    refine zj_tsw 2 (2) 102 d_M_told_38 (by decide) (by decide) (by decide) rfl rfl (fun _ => ?_) (fun h43 => ?_)
    · refine zj_aload_n d_M_told_102 rfl ?_
      refine zj_getR fl_M_27 (fun _ _ _ _ => rfl) d_M_told_103 (fun v44 => ?_)
      refine zj_iload_n d_M_told_106 rfl ?_
      refine zj_iaload d_M_told_107 (fun v45 => ?_)
      exact zj_iret rfl rfl rfl rfl d_M_told_108
    refine zj_tsw 3 (3) 109 d_M_told_38 (by decide) (by decide) (by decide) rfl rfl (fun _ => ?_) (fun h46 => ?_)
    · refine zj_aload_n d_M_told_109 rfl ?_
      refine zj_getR fl_M_30 (fun _ _ _ _ => rfl) d_M_told_110 (fun v47 => ?_)
      refine zj_iload_n d_M_told_113 rfl ?_
      refine zj_iaload d_M_told_114 (fun v48 => ?_)
      exact zj_iret rfl rfl rfl rfl d_M_told_115
    refine zj_tsw 4 (4) 116 d_M_told_38 (by decide) (by decide) (by decide) rfl rfl (fun _ => ?_) (fun h49 => ?_)
    · refine zj_aload_n d_M_told_116 rfl ?_
      refine zj_iload_n d_M_told_117 rfl ?_
      refine zj_cVIp (ci := 9) (T := zT9) (N := 53) [.int a1] zm_V_M_keeps ml_M_144 rfl (fun _ _ h => B_M_keeps g (d + 2) h) (Nat.le_refl _) ⟨Nat.zero_le _, Nat.zero_le _⟩ rfl rfl (by decide) d_M_told_118 (fun v50 => ?_)
      exact zj_iret rfl rfl rfl rfl d_M_told_121
    refine zj_tsw 5 (5) 122 d_M_told_38 (by decide) (by decide) (by decide) rfl rfl (fun _ => ?_) (fun h52 => ?_)
    · refine zj_aload_n d_M_told_122 rfl ?_
      refine zj_iload_n d_M_told_123 rfl ?_
      refine zj_cVIp (ci := 9) (T := zT9) (N := 53) [.int a1] zm_V_M_countsOf ml_M_150 rfl (fun _ _ h => B_M_countsOf g (d) h) (Nat.le_refl _) ⟨Nat.zero_le _, Nat.zero_le _⟩ rfl rfl (by decide) d_M_told_124 (fun v53 => ?_)
      exact zj_iret rfl rfl rfl rfl d_M_told_127
    refine zj_tsw 6 (6) 128 d_M_told_38 (by decide) (by decide) (by decide) rfl rfl (fun _ => ?_) (fun h55 => ?_)
    · refine zj_aload_n d_M_told_128 rfl ?_
      refine zj_getR fl_M_33 (fun _ _ _ _ => rfl) d_M_told_129 (fun v56 => ?_)
      refine zj_iload_n d_M_told_132 rfl ?_
      refine zj_iaload d_M_told_133 (fun v57 => ?_)
      exact zj_iret rfl rfl rfl rfl d_M_told_134
    refine zj_tsw 7 (7) 135 d_M_told_38 (by decide) (by decide) (by decide) rfl rfl (fun _ => ?_) (fun h58 => ?_)
    · refine zj_aload_n d_M_told_135 rfl ?_
      refine zj_iload_n d_M_told_136 rfl ?_
      refine zj_iload_n d_M_told_137 rfl ?_
      refine zj_cVIp (ci := 9) (T := zT9) (N := 53) [.int a1, .int a2] zm_V_M_canDo ml_M_147 rfl (fun _ _ h => B_M_canDo g (d + 1) h) (Nat.le_refl _) ⟨Nat.zero_le _, Nat.zero_le _⟩ rfl rfl (by decide) d_M_told_138 (fun v59 => ?_)
      refine zj_if_eq 148 d_M_told_141 rfl (fun _ => ?_) (fun _ => ?_)
      · refine zj_iconst 0 d_M_told_148 (by decide) ?_
        exact zj_iret rfl rfl rfl rfl d_M_told_149
      refine zj_iconst 1 d_M_told_144 (by decide) ?_
      refine zj_goto 149 d_M_told_145 rfl ?_
      exact zj_iret rfl rfl rfl rfl d_M_told_149
    refine zj_tsw 8 (8) 150 d_M_told_38 (by decide) (by decide) (by decide) rfl rfl (fun _ => ?_) (fun h61 => ?_)
    · refine zj_aload_n d_M_told_150 rfl ?_
      refine zj_iload_n d_M_told_151 rfl ?_
      refine zj_iload_n d_M_told_152 rfl ?_
      refine zj_cVI (ci := 9) (T := zT9) (N := 53) [.int a1, .int a2] zm_V_M_wellOf ml_M_153 rfl (fun _ _ h => B_M_wellOf g (d) h) (Nat.le_refl _) ⟨Nat.zero_le _, Nat.zero_le _⟩ rfl rfl (by decide) d_M_told_153 (fun v62 u63 => ?_)
      exact zj_iret rfl rfl rfl rfl d_M_told_156
    refine zj_tswD 157 d_M_told_38 (by have e0 := lv_neT h37 (show (0 : Int32).toInt = 0 by decide); have e1 := lv_neT h40 (show (1 : Int32).toInt = 1 by decide); have e2 := lv_neT h43 (show (2 : Int32).toInt = 2 by decide); have e3 := lv_neT h46 (show (3 : Int32).toInt = 3 by decide); have e4 := lv_neT h49 (show (4 : Int32).toInt = 4 by decide); have e5 := lv_neT h52 (show (5 : Int32).toInt = 5 by decide); have e6 := lv_neT h55 (show (6 : Int32).toInt = 6 by decide); have e7 := lv_neT h58 (show (7 : Int32).toInt = 7 by decide); have e8 := lv_neT h61 (show (8 : Int32).toInt = 8 by decide); omega) rfl ?_
    refine zj_aload_n d_M_told_157 rfl ?_
    refine zj_iload_n d_M_told_158 rfl ?_
    refine zj_iload_n d_M_told_159 rfl ?_
    refine zj_cVI (ci := 9) (T := zT9) (N := 53) [.int a1, .int a2] zm_V_M_costOf ml_M_156 rfl (fun _ _ h => B_M_costOf g (d) h) (Nat.le_refl _) ⟨Nat.zero_le _, Nat.zero_le _⟩ rfl rfl (by decide) d_M_told_160 (fun v65 u66 => ?_)
    exact zj_iret rfl rfl rfl rfl d_M_told_163
  refine zj_bipush (-5) d_M_told_34 (by decide) ?_
  exact zj_iret rfl rfl rfl rfl d_M_told_36
def F_X_lookAtGains (u0 : zS) (this : Nat) (a1 : Int32) : Option (zS) := (zgR u0 8 (some this) 9).bind fun v1 => (zgR u0 8 (some this) 0).bind fun v2 => (zgI u0 2 v2 0).bind fun v3 => (zpI u0 4 v1 0 v3).bind fun u4 => (zgR u4 8 (some this) 9).bind fun v5 => (zgR u4 8 (some this) 0).bind fun v6 => (zgI u4 2 v6 1).bind fun v7 => (zpI u4 4 v5 1 v7).bind fun u8 => zfix2 (fun (r9 : zS → Int32 → Option (zS)) (u10 : zS) (x11 : Int32) => (zgR u10 8 (some this) 0).bind fun v12 => (zgI u10 2 v12 0).bind fun v13 => if v13 ≤ x11 then (some u10) else (zfix2 (fun (r14 : zS → Int32 → Option (zS)) (u15 : zS) (x16 : Int32) => (zgI u15 8 (some this) 2).bind fun v17 => if v17 ≤ x16 then (r9 u15 (x11 + 1)) else (zjn1 (fun (j19 : Int32 → Option (zS)) => if ((a1 >>> (x16 &&& 31)) &&& 1) = 1 then ((zgR u15 8 (some this) 1).bind fun v32 => (zaR u15 "PostsFilled$Person" v32 x16).bind fun v33 => (zgR u15 8 (some this) 0).bind fun v34 => (zob u15 3 v33).bind fun q36 => (F_Person_can u15 q36 x11 v34).bind fun v35 => if v35 = 0 then (j19 0) else (j19 1)) else (j19 0)) (fun (x18 : Int32) => (zgR u15 8 (some this) 9).bind fun v20 => (zgR u15 4 v20 2).bind fun v21 => if x18 = 0 then ((zsI u15 v21 ((x11 * 7) + x16) (-1)).bind fun u22 => r14 u22 (x16 + 1)) else ((zgR u15 8 (some this) 1).bind fun v23 => (zaR u15 "PostsFilled$Person" v23 x16).bind fun v24 => (zob u15 8 (some this)).bind fun q27 => (F_X_wellOf u15 q27 v24 x11).bind <| zk fun v25 u26 => (zgR u26 8 (some this) 0).bind fun v28 => (zgR u26 2 v28 2).bind fun v29 => (zaI u26 .int v29 x11).bind fun v30 => (zsI u26 v21 ((x11 * 7) + x16) (v25 * v30)).bind fun u31 => r14 u31 (x16 + 1))))) zFU u10 0)) zFU u8 0
set_option maxHeartbeats 4000000 in
set_option maxRecDepth 100000 in
theorem B_X_lookAtGains (g : zG) (d : Nat) {u0 : zS} {this : Nat} {a1 : Int32} {o : zS} (h : F_X_lookAtGains u0 this a1 = some o) : zMt g zy_X_lookAtGains (d + 5) 0 0 [zr g (some this), .int a1] u0 none o := by
  refine zMt_of2 (ls := [some (zr g (some this)), some (.int a1), none, none, none]) 3 (by decide +kernel) (by simp [lg_sl, zr_cat, zcI, zcJ]) (by simp [zal, zr_cat, zcI, zcJ, List.replicate]) ?_
  revert h
  show zJ g zy_X_lookAtGains (d + 5) 0 0 zwV o 0 0 0 [some (zr g (some this)), some (.int a1), none, none, none] [] u0 (F_X_lookAtGains u0 this a1)
  unfold F_X_lookAtGains
  refine zj_aload_n d_X_lookAtGains_0 rfl ?_
  refine zj_getR fl_X_52 (fun _ _ _ _ => rfl) d_X_lookAtGains_1 (fun v1 => ?_)
  refine zj_aload_n d_X_lookAtGains_4 rfl ?_
  refine zj_getR fl_X_10 (fun _ _ _ _ => rfl) d_X_lookAtGains_5 (fun v2 => ?_)
  refine zj_getI fl_X_254 (fun _ _ _ _ => rfl) d_X_lookAtGains_8 (fun v3 => ?_)
  refine zj_putI fl_X_358 (fun _ _ _ _ => rfl) ⟨rfl, rfl⟩ d_X_lookAtGains_11 (fun u4 => ?_)
  refine zj_aload_n d_X_lookAtGains_14 rfl ?_
  refine zj_getR fl_X_52 (fun _ _ _ _ => rfl) d_X_lookAtGains_15 (fun v5 => ?_)
  refine zj_aload_n d_X_lookAtGains_18 rfl ?_
  refine zj_getR fl_X_10 (fun _ _ _ _ => rfl) d_X_lookAtGains_19 (fun v6 => ?_)
  refine zj_getI fl_X_298 (fun _ _ _ _ => rfl) d_X_lookAtGains_22 (fun v7 => ?_)
  refine zj_putI fl_X_361 (fun _ _ _ _ => rfl) ⟨rfl, rfl⟩ d_X_lookAtGains_25 (fun u8 => ?_)
  refine zj_iconst 0 d_X_lookAtGains_28 (by decide) ?_
  refine zj_istore_n [some (zr g (some this)), some (.int a1), some (.int 0), none, none] d_X_lookAtGains_29 (by decide) rfl rfl ?_
  refine zj_fix2 (fun u10 x11 => [some (zr g (some this)), some (.int a1), some (.int x11), none, none]) (fun u10 x11 => u10) (fun r9 hr9 u10 x11 => ?_) u8 0
  refine zj_iload_n d_X_lookAtGains_30 rfl ?_
  refine zj_aload_n d_X_lookAtGains_31 rfl ?_
  refine zj_getR fl_X_10 (fun _ _ _ _ => rfl) d_X_lookAtGains_32 (fun v12 => ?_)
  refine zj_getI fl_X_254 (fun _ _ _ _ => rfl) d_X_lookAtGains_35 (fun v13 => ?_)
  refine zj_icmp_ge 140 d_X_lookAtGains_38 rfl (fun _ => ?_) (fun _ => ?_)
  · exact zj_vret rfl rfl rfl rfl d_X_lookAtGains_140
  refine zj_iconst 0 d_X_lookAtGains_41 (by decide) ?_
  refine zj_istore_n [some (zr g (some this)), some (.int a1), some (.int x11), some (.int 0), none] d_X_lookAtGains_42 (by decide) rfl rfl ?_
  refine zj_fix2 (fun u15 x16 => [some (zr g (some this)), some (.int a1), some (.int x11), some (.int x16), none]) (fun u15 x16 => u15) (fun r14 hr14 u15 x16 => ?_) u10 0
  refine zj_iload_n d_X_lookAtGains_43 rfl ?_
  refine zj_aload_n d_X_lookAtGains_44 rfl ?_
  refine zj_getI fl_X_22 (fun _ _ _ _ => rfl) d_X_lookAtGains_45 (fun v17 => ?_)
  refine zj_icmp_ge 134 d_X_lookAtGains_48 rfl (fun _ => ?_) (fun _ => ?_)
  · refine zj_iinc (v := (x11 + 1)) [some (zr g (some this)), some (.int a1), some (.int (x11 + 1)), some (.int x16), none] d_X_lookAtGains_134 rfl rfl (by decide) rfl rfl ?_
    refine zj_goto 30 d_X_lookAtGains_137 rfl ?_
    refine zj_cut [some (zr g (some this)), some (.int a1), some (.int (x11 + 1)), none, none] ⟨rfl, ⟨rfl, ⟨rfl, trivial⟩⟩⟩ ?_
    exact hr9 u15 (x11 + 1)
  refine zj_iload_n d_X_lookAtGains_51 rfl ?_
  refine zj_iload_n d_X_lookAtGains_52 rfl ?_
  refine zj_ishr d_X_lookAtGains_53 ?_
  refine zj_iconst 1 d_X_lookAtGains_54 (by decide) ?_
  refine zj_iand d_X_lookAtGains_55 ?_
  refine zj_iconst 1 d_X_lookAtGains_56 (by decide) ?_
  refine zj_jn1 (pcj := 82) (fun x18 => [some (zr g (some this)), some (.int a1), some (.int x11), some (.int x16), none]) (fun x18 => [.int x18]) (fun x18 => u15) (fun x18 => ?_) (fun j19 hj19 => ?_)
  · refine zj_istore [some (zr g (some this)), some (.int a1), some (.int x11), some (.int x16), some (.int x18)] d_X_lookAtGains_82 (by decide) rfl rfl ?_
    refine zj_aload_n d_X_lookAtGains_84 rfl ?_
    refine zj_getR fl_X_52 (fun _ _ _ _ => rfl) d_X_lookAtGains_85 (fun v20 => ?_)
    refine zj_getR fl_X_362 (fun _ _ _ _ => rfl) d_X_lookAtGains_88 (fun v21 => ?_)
    refine zj_iload_n d_X_lookAtGains_91 rfl ?_
    refine zj_bipush 7 d_X_lookAtGains_92 (by decide) ?_
    refine zj_imul d_X_lookAtGains_94 ?_
    refine zj_iload_n d_X_lookAtGains_95 rfl ?_
    refine zj_iadd d_X_lookAtGains_96 ?_
    refine zj_iload d_X_lookAtGains_97 rfl ?_
    refine zj_if_eq 126 d_X_lookAtGains_99 rfl (fun _ => ?_) (fun _ => ?_)
    · refine zj_iconst (-1) d_X_lookAtGains_126 (by decide) ?_
      refine zj_iastore d_X_lookAtGains_127 (fun u22 => ?_)
      refine zj_iinc (v := (x16 + 1)) [some (zr g (some this)), some (.int a1), some (.int x11), some (.int (x16 + 1)), some (.int x18)] d_X_lookAtGains_128 rfl rfl (by decide) rfl rfl ?_
      refine zj_goto 43 d_X_lookAtGains_131 rfl ?_
      refine zj_cut [some (zr g (some this)), some (.int a1), some (.int x11), some (.int (x16 + 1)), none] ⟨rfl, ⟨rfl, ⟨rfl, ⟨rfl, trivial⟩⟩⟩⟩ ?_
      exact hr14 u22 (x16 + 1)
    refine zj_aload_n d_X_lookAtGains_102 rfl ?_
    refine zj_aload_n d_X_lookAtGains_103 rfl ?_
    refine zj_getR fl_X_18 (fun _ _ _ _ => rfl) d_X_lookAtGains_104 (fun v23 => ?_)
    refine zj_iload_n d_X_lookAtGains_107 rfl ?_
    refine zj_aaload 4 rfl d_X_lookAtGains_108 (fun v24 => ?_)
    refine zj_iload_n d_X_lookAtGains_109 rfl ?_
    refine zj_cVI (ci := 8) (T := zT8) (N := 16) [zr g v24, .int x11] zm_V_X_wellOf ml_X_174 rfl (fun _ _ h => B_X_wellOf g (d) h) (Nat.le_refl _) ⟨Nat.zero_le _, Nat.zero_le _⟩ rfl rfl (by simp [zr_cat, zcI, zcJ]) d_X_lookAtGains_110 (fun v25 u26 => ?_)
    refine zj_aload_n d_X_lookAtGains_113 rfl ?_
    refine zj_getR fl_X_10 (fun _ _ _ _ => rfl) d_X_lookAtGains_114 (fun v28 => ?_)
    refine zj_getR fl_X_365 (fun _ _ _ _ => rfl) d_X_lookAtGains_117 (fun v29 => ?_)
    refine zj_iload_n d_X_lookAtGains_120 rfl ?_
    refine zj_iaload d_X_lookAtGains_121 (fun v30 => ?_)
    refine zj_imul d_X_lookAtGains_122 ?_
    refine zj_goto 127 d_X_lookAtGains_123 rfl ?_
    refine zj_iastore d_X_lookAtGains_127 (fun u31 => ?_)
    refine zj_iinc (v := (x16 + 1)) [some (zr g (some this)), some (.int a1), some (.int x11), some (.int (x16 + 1)), some (.int x18)] d_X_lookAtGains_128 rfl rfl (by decide) rfl rfl ?_
    refine zj_goto 43 d_X_lookAtGains_131 rfl ?_
    refine zj_cut [some (zr g (some this)), some (.int a1), some (.int x11), some (.int (x16 + 1)), none] ⟨rfl, ⟨rfl, ⟨rfl, ⟨rfl, trivial⟩⟩⟩⟩ ?_
    exact hr14 u31 (x16 + 1)
  refine zj_icmp_ne 81 d_X_lookAtGains_57 rfl (fun _ => ?_) (fun _ => ?_)
  · refine zj_iconst 0 d_X_lookAtGains_81 (by decide) ?_
    exact hj19 0
  refine zj_aload_n d_X_lookAtGains_60 rfl ?_
  refine zj_getR fl_X_18 (fun _ _ _ _ => rfl) d_X_lookAtGains_61 (fun v32 => ?_)
  refine zj_iload_n d_X_lookAtGains_64 rfl ?_
  refine zj_aaload 4 rfl d_X_lookAtGains_65 (fun v33 => ?_)
  refine zj_iload_n d_X_lookAtGains_66 rfl ?_
  refine zj_aload_n d_X_lookAtGains_67 rfl ?_
  refine zj_getR fl_X_10 (fun _ _ _ _ => rfl) d_X_lookAtGains_68 (fun v34 => ?_)
  refine zj_cVIp (ci := 3) (T := zT3) (N := 10) [.int x11, zr g v34] zm_V_Person_can ml_X_170 rfl (fun _ _ h => B_Person_can g (d) h) (Nat.le_refl _) ⟨Nat.zero_le _, Nat.zero_le _⟩ rfl rfl (by decide) d_X_lookAtGains_71 (fun v35 => ?_)
  refine zj_if_eq 81 d_X_lookAtGains_74 rfl (fun _ => ?_) (fun _ => ?_)
  · refine zj_iconst 0 d_X_lookAtGains_81 (by decide) ?_
    exact hj19 0
  refine zj_iconst 1 d_X_lookAtGains_77 (by decide) ?_
  refine zj_goto 82 d_X_lookAtGains_78 rfl ?_
  exact hj19 1
def F_X_lookWhoCan (u0 : zS) (this : Nat) : Option (zS) := (zgR u0 8 (some this) 8).bind fun v1 => (zgR u0 8 (some this) 0).bind fun v2 => (zgI u0 2 v2 1).bind fun v3 => (zpI u0 1 v1 0 v3).bind fun u4 => zfix2 (fun (r5 : zS → Int32 → Option (zS)) (u6 : zS) (x7 : Int32) => if 6 ≤ x7 then (zfix2 (fun (r8 : zS → Int32 → Option (zS)) (u9 : zS) (x10 : Int32) => (zgR u9 8 (some this) 0).bind fun v11 => (zgI u9 2 v11 0).bind fun v12 => if v12 ≤ x10 then ((zgR u9 8 (some this) 8).bind fun v13 => (zob u9 1 v13).bind fun q16 => (F_Cover_spread u9 q16 ).bind fun u15 => some u15) else (zfix2 (fun (r17 : zS → Int32 → Option (zS)) (u18 : zS) (x19 : Int32) => (zgI u18 8 (some this) 2).bind fun v20 => if v20 ≤ x19 then (r8 u18 (x10 + 1)) else ((zgR u18 8 (some this) 1).bind fun v21 => (zaR u18 "PostsFilled$Person" v21 x19).bind fun v22 => (zgR u18 8 (some this) 0).bind fun v23 => (zob u18 3 v22).bind fun q25 => (F_Person_can u18 q25 x10 v23).bind fun v24 => if v24 = 0 then (r17 u18 (x19 + 1)) else ((zgR u18 8 (some this) 8).bind fun v26 => (zgR u18 1 v26 1).bind fun v27 => (zaI u18 .int v27 x10).bind fun v28 => (zsI u18 v27 x10 (v28 ||| ((1 : Int32) <<< (x19 &&& 31)))).bind fun u29 => r17 u29 (x19 + 1)))) zFU u9 0)) zFU u6 0) else ((zgR u6 8 (some this) 8).bind fun v30 => (zgR u6 1 v30 1).bind fun v31 => (zsI u6 v31 x7 0).bind fun u32 => r5 u32 (x7 + 1))) zFU u4 0
set_option maxHeartbeats 4000000 in
set_option maxRecDepth 100000 in
theorem B_X_lookWhoCan (g : zG) (d : Nat) {u0 : zS} {this : Nat} {o : zS} (h : F_X_lookWhoCan u0 this = some o) : zMt g zy_X_lookWhoCan (d + 5) 0 0 [zr g (some this)] u0 none o := by
  refine zMt_of2 (ls := [some (zr g (some this)), none, none]) 2 (by decide +kernel) (by simp [lg_sl, zr_cat, zcI, zcJ]) (by simp [zal, zr_cat, zcI, zcJ, List.replicate]) ?_
  revert h
  show zJ g zy_X_lookWhoCan (d + 5) 0 0 zwV o 0 0 0 [some (zr g (some this)), none, none] [] u0 (F_X_lookWhoCan u0 this)
  unfold F_X_lookWhoCan
  refine zj_aload_n d_X_lookWhoCan_0 rfl ?_
  refine zj_getR fl_X_45 (fun _ _ _ _ => rfl) d_X_lookWhoCan_1 (fun v1 => ?_)
  refine zj_aload_n d_X_lookWhoCan_4 rfl ?_
  refine zj_getR fl_X_10 (fun _ _ _ _ => rfl) d_X_lookWhoCan_5 (fun v2 => ?_)
  refine zj_getI fl_X_298 (fun _ _ _ _ => rfl) d_X_lookWhoCan_8 (fun v3 => ?_)
  refine zj_putI fl_X_348 (fun _ _ _ _ => rfl) ⟨rfl, rfl⟩ d_X_lookWhoCan_11 (fun u4 => ?_)
  refine zj_iconst 0 d_X_lookWhoCan_14 (by decide) ?_
  refine zj_istore_n [some (zr g (some this)), some (.int 0), none] d_X_lookWhoCan_15 (by decide) rfl rfl ?_
  refine zj_fix2 (fun u6 x7 => [some (zr g (some this)), some (.int x7), none]) (fun u6 x7 => u6) (fun r5 hr5 u6 x7 => ?_) u4 0
  refine zj_iload_n d_X_lookWhoCan_16 rfl ?_
  refine zj_bipush 6 d_X_lookWhoCan_17 (by decide) ?_
  refine zj_icmp_ge 38 d_X_lookWhoCan_19 rfl (fun _ => ?_) (fun _ => ?_)
  · refine zj_iconst 0 d_X_lookWhoCan_38 (by decide) ?_
    refine zj_istore_n [some (zr g (some this)), some (.int 0), none] d_X_lookWhoCan_39 (by decide) rfl rfl ?_
    refine zj_fix2 (fun u9 x10 => [some (zr g (some this)), some (.int x10), none]) (fun u9 x10 => u9) (fun r8 hr8 u9 x10 => ?_) u6 0
    refine zj_iload_n d_X_lookWhoCan_40 rfl ?_
    refine zj_aload_n d_X_lookWhoCan_41 rfl ?_
    refine zj_getR fl_X_10 (fun _ _ _ _ => rfl) d_X_lookWhoCan_42 (fun v11 => ?_)
    refine zj_getI fl_X_254 (fun _ _ _ _ => rfl) d_X_lookWhoCan_45 (fun v12 => ?_)
    refine zj_icmp_ge 105 d_X_lookWhoCan_48 rfl (fun _ => ?_) (fun _ => ?_)
    · refine zj_aload_n d_X_lookWhoCan_105 rfl ?_
      refine zj_getR fl_X_45 (fun _ _ _ _ => rfl) d_X_lookWhoCan_106 (fun v13 => ?_)
      refine zj_cVU (ci := 1) (T := zT1) (N := 3) [] zm_V_Cover_spread ml_X_239 rfl (fun _ _ h => B_Cover_spread g (d + 3) h) (Nat.le_refl _) ⟨Nat.zero_le _, Nat.zero_le _⟩ rfl rfl (by decide) d_X_lookWhoCan_109 (fun u15 => ?_)
      exact zj_vret rfl rfl rfl rfl d_X_lookWhoCan_112
    refine zj_iconst 0 d_X_lookWhoCan_51 (by decide) ?_
    refine zj_istore_n [some (zr g (some this)), some (.int x10), some (.int 0)] d_X_lookWhoCan_52 (by decide) rfl rfl ?_
    refine zj_fix2 (fun u18 x19 => [some (zr g (some this)), some (.int x10), some (.int x19)]) (fun u18 x19 => u18) (fun r17 hr17 u18 x19 => ?_) u9 0
    refine zj_iload_n d_X_lookWhoCan_53 rfl ?_
    refine zj_aload_n d_X_lookWhoCan_54 rfl ?_
    refine zj_getI fl_X_22 (fun _ _ _ _ => rfl) d_X_lookWhoCan_55 (fun v20 => ?_)
    refine zj_icmp_ge 99 d_X_lookWhoCan_58 rfl (fun _ => ?_) (fun _ => ?_)
    · refine zj_iinc (v := (x10 + 1)) [some (zr g (some this)), some (.int (x10 + 1)), some (.int x19)] d_X_lookWhoCan_99 rfl rfl (by decide) rfl rfl ?_
      refine zj_goto 40 d_X_lookWhoCan_102 rfl ?_
      refine zj_cut [some (zr g (some this)), some (.int (x10 + 1)), none] ⟨rfl, ⟨rfl, trivial⟩⟩ ?_
      exact hr8 u18 (x10 + 1)
    refine zj_aload_n d_X_lookWhoCan_61 rfl ?_
    refine zj_getR fl_X_18 (fun _ _ _ _ => rfl) d_X_lookWhoCan_62 (fun v21 => ?_)
    refine zj_iload_n d_X_lookWhoCan_65 rfl ?_
    refine zj_aaload 4 rfl d_X_lookWhoCan_66 (fun v22 => ?_)
    refine zj_iload_n d_X_lookWhoCan_67 rfl ?_
    refine zj_aload_n d_X_lookWhoCan_68 rfl ?_
    refine zj_getR fl_X_10 (fun _ _ _ _ => rfl) d_X_lookWhoCan_69 (fun v23 => ?_)
    refine zj_cVIp (ci := 3) (T := zT3) (N := 10) [.int x10, zr g v23] zm_V_Person_can ml_X_170 rfl (fun _ _ h => B_Person_can g (d) h) (Nat.le_refl _) ⟨Nat.zero_le _, Nat.zero_le _⟩ rfl rfl (by decide) d_X_lookWhoCan_72 (fun v24 => ?_)
    refine zj_if_eq 93 d_X_lookWhoCan_75 rfl (fun _ => ?_) (fun _ => ?_)
    · refine zj_iinc (v := (x19 + 1)) [some (zr g (some this)), some (.int x10), some (.int (x19 + 1))] d_X_lookWhoCan_93 rfl rfl (by decide) rfl rfl ?_
      refine zj_goto 53 d_X_lookWhoCan_96 rfl ?_
      exact hr17 u18 (x19 + 1)
    refine zj_aload_n d_X_lookWhoCan_78 rfl ?_
    refine zj_getR fl_X_45 (fun _ _ _ _ => rfl) d_X_lookWhoCan_79 (fun v26 => ?_)
    refine zj_getR fl_X_236 (fun _ _ _ _ => rfl) d_X_lookWhoCan_82 (fun v27 => ?_)
    refine zj_iload_n d_X_lookWhoCan_85 rfl ?_
    refine zj_dup2 d_X_lookWhoCan_86 rfl (zr_cat _ _) ?_
    refine zj_iaload d_X_lookWhoCan_87 (fun v28 => ?_)
    refine zj_iconst 1 d_X_lookWhoCan_88 (by decide) ?_
    refine zj_iload_n d_X_lookWhoCan_89 rfl ?_
    refine zj_ishl d_X_lookWhoCan_90 ?_
    refine zj_ior d_X_lookWhoCan_91 ?_
    refine zj_iastore d_X_lookWhoCan_92 (fun u29 => ?_)
    refine zj_iinc (v := (x19 + 1)) [some (zr g (some this)), some (.int x10), some (.int (x19 + 1))] d_X_lookWhoCan_93 rfl rfl (by decide) rfl rfl ?_
    refine zj_goto 53 d_X_lookWhoCan_96 rfl ?_
    exact hr17 u29 (x19 + 1)
  refine zj_aload_n d_X_lookWhoCan_22 rfl ?_
  refine zj_getR fl_X_45 (fun _ _ _ _ => rfl) d_X_lookWhoCan_23 (fun v30 => ?_)
  refine zj_getR fl_X_236 (fun _ _ _ _ => rfl) d_X_lookWhoCan_26 (fun v31 => ?_)
  refine zj_iload_n d_X_lookWhoCan_29 rfl ?_
  refine zj_iconst 0 d_X_lookWhoCan_30 (by decide) ?_
  refine zj_iastore d_X_lookWhoCan_31 (fun u32 => ?_)
  refine zj_iinc (v := (x7 + 1)) [some (zr g (some this)), some (.int (x7 + 1)), none] d_X_lookWhoCan_32 rfl rfl (by decide) rfl rfl ?_
  refine zj_goto 16 d_X_lookWhoCan_35 rfl ?_
  exact hr5 u32 (x7 + 1)
