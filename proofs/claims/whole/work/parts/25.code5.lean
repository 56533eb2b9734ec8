def F_M_canDo (u0 : zS) (this : Nat) (a1 : Int32) (a2 : Int32) : Option (Int32) := (zgR u0 9 (some this) 13).bind fun v1 => (zaI u0 .boolean v1 (((6 : Int32) * a1) + a2)).bind fun v2 => if v2 = 0 then ((zgR u0 9 (some this) 6).bind fun v3 => (zaI u0 .int v3 a1).bind fun v4 => if v4 = a2 then (some 1) else ((zgR u0 9 (some this) 12).bind fun v5 => (zaI u0 .boolean v5 (((6 : Int32) * a1) + a2)).bind fun v6 => if v6 = 0 then ((zgR u0 9 (some this) 6).bind fun v7 => (zaI u0 .int v7 a1).bind fun v8 => zjn1 (fun (j10 : Int32 → Option (Int32)) => if a2 = (v8 + 1) then (j10 1) else ((zgR u0 9 (some this) 6).bind fun v21 => (zaI u0 .int v21 a1).bind fun v22 => if a2 = (v22 - 1) then (j10 1) else (j10 0))) (fun (x9 : Int32) => (zgR u0 9 (some this) 5).bind fun v11 => (zaI u0 .int v11 a1).bind fun v12 => if v12 = 1 then (zrz x9 x9) else if v12 = 2 then (some 0) else if v12 = 3 then (if x9 = 0 then ((zgR u0 9 (some this) 2).bind fun v16 => (zaI u0 .boolean v16 a2).bind fun v17 => if v17 = 0 then (some 1) else (some 0)) else (some 1)) else if v12 = 4 then ((zgR u0 9 (some this) 3).bind fun v19 => (zaI u0 .int v19 a2).bind fun v20 => if v20 ≤ 50 then (some 0) else (some 1)) else (some 0))) else ((zob u0 9 (some this)).bind fun q24 => (F_M_yearsOf u0 q24 a1 a2).bind fun v23 => (zob u0 9 (some this)).bind fun q26 => (F_M_keeps u0 q26 a1).bind fun v25 => if v25 < v23 then ((zgR u0 9 (some this) 6).bind fun v27 => (zaI u0 .int v27 a1).bind fun v28 => zjn1 (fun (j30 : Int32 → Option (Int32)) => if a2 = (v28 + 1) then (j30 1) else ((zgR u0 9 (some this) 6).bind fun v41 => (zaI u0 .int v41 a1).bind fun v42 => if a2 = (v42 - 1) then (j30 1) else (j30 0))) (fun (x29 : Int32) => (zgR u0 9 (some this) 5).bind fun v31 => (zaI u0 .int v31 a1).bind fun v32 => if v32 = 1 then (zrz x29 x29) else if v32 = 2 then (some 0) else if v32 = 3 then (if x29 = 0 then ((zgR u0 9 (some this) 2).bind fun v36 => (zaI u0 .boolean v36 a2).bind fun v37 => if v37 = 0 then (some 1) else (some 0)) else (some 1)) else if v32 = 4 then ((zgR u0 9 (some this) 3).bind fun v39 => (zaI u0 .int v39 a2).bind fun v40 => if v40 ≤ 50 then (some 0) else (some 1)) else (some 0))) else (some 1)))) else (some 0)
set_option maxHeartbeats 4000000 in
set_option maxRecDepth 100000 in
theorem B_M_canDo (g : zG) (d : Nat) {u0 : zS} {this : Nat} {a1 : Int32} {a2 : Int32} {o : Int32} (h : F_M_canDo u0 this a1 a2 = some o) : zMt g zy_M_canDo (d + 2) 0 0 [zr g (some this), .int a1, .int a2] u0 (some (.int o)) u0 := by
  refine zMt_of2 (ls := [some (zr g (some this)), some (.int a1), some (.int a2), none]) 1 (by decide +kernel) (by simp [lg_sl, zr_cat, zcI, zcJ]) (by simp [zal, zr_cat, zcI, zcJ, List.replicate]) ?_
  revert h
  show zJ g zy_M_canDo (d + 2) 0 0 (zwIp u0) o 0 0 0 [some (zr g (some this)), some (.int a1), some (.int a2), none] [] u0 (F_M_canDo u0 this a1 a2)
  unfold F_M_canDo
  refine zj_aload_n d_M_canDo_0 rfl ?_
  refine zj_getR fl_M_42 (fun _ _ _ _ => rfl) d_M_canDo_1 (fun v1 => ?_)
  refine zj_bipush 6 d_M_canDo_4 (by decide) ?_
  refine zj_iload_n d_M_canDo_6 rfl ?_
  refine zj_imul d_M_canDo_7 ?_
  refine zj_iload_n d_M_canDo_8 rfl ?_
  refine zj_iadd d_M_canDo_9 ?_
  refine zj_zaload d_M_canDo_10 (fun v2 => ?_)
  refine zj_if_eq 16 d_M_canDo_11 rfl (fun _ => ?_) (fun _ => ?_)
  · refine zj_aload_n d_M_canDo_16 rfl ?_
    refine zj_getR fl_M_24 (fun _ _ _ _ => rfl) d_M_canDo_17 (fun v3 => ?_)
    refine zj_iload_n d_M_canDo_20 rfl ?_
    refine zj_iaload d_M_canDo_21 (fun v4 => ?_)
    refine zj_iload_n d_M_canDo_22 rfl ?_
    refine zj_icmp_eq 54 d_M_canDo_23 rfl (fun _ => ?_) (fun _ => ?_)
    · refine zj_iconst 1 d_M_canDo_54 (by decide) ?_
      exact zj_zretL (by decide) rfl rfl rfl rfl d_M_canDo_55
    refine zj_aload_n d_M_canDo_26 rfl ?_
    refine zj_getR fl_M_39 (fun _ _ _ _ => rfl) d_M_canDo_27 (fun v5 => ?_)
    refine zj_bipush 6 d_M_canDo_30 (by decide) ?_
    refine zj_iload_n d_M_canDo_32 rfl ?_
    refine zj_imul d_M_canDo_33 ?_
    refine zj_iload_n d_M_canDo_34 rfl ?_
    refine zj_iadd d_M_canDo_35 ?_
    refine zj_zaload d_M_canDo_36 (fun v6 => ?_)
    refine zj_if_eq 56 d_M_canDo_37 rfl (fun _ => ?_) (fun _ => ?_)
    · refine zj_iload_n d_M_canDo_56 rfl ?_
      refine zj_aload_n d_M_canDo_57 rfl ?_
      refine zj_getR fl_M_24 (fun _ _ _ _ => rfl) d_M_canDo_58 (fun v7 => ?_)
      refine zj_iload_n d_M_canDo_61 rfl ?_
      refine zj_iaload d_M_canDo_62 (fun v8 => ?_)
      refine zj_iconst 1 d_M_canDo_63 (by decide) ?_
      refine zj_iadd d_M_canDo_64 ?_
      refine zj_jn1 (pcj := 85) (fun x9 => [some (zr g (some this)), some (.int a1), some (.int a2), none]) (fun x9 => [.int x9]) (fun x9 => u0) (fun x9 => ?_) (fun j10 hj10 => ?_)
      · refine zj_istore_n [some (zr g (some this)), some (.int a1), some (.int a2), some (.int x9)] d_M_canDo_85 (by decide) rfl rfl ?_
        refine zj_aload_n d_M_canDo_86 rfl ?_
        refine zj_getR fl_M_21 (fun _ _ _ _ => rfl) d_M_canDo_87 (fun v11 => ?_)
        refine zj_iload_n d_M_canDo_90 rfl ?_
        refine zj_iaload d_M_canDo_91 (fun v12 => ?_)
        refine zj_tsw 1 (1) 124 d_M_canDo_92 (by decide) (by decide) (by decide) rfl rfl (fun _ => ?_) (fun h13 => ?_)
        · refine zj_iload_n d_M_canDo_124 rfl ?_
          exact zj_zret rfl rfl rfl rfl d_M_canDo_125
        refine zj_tsw 2 (2) 162 d_M_canDo_92 (by decide) (by decide) (by decide) rfl rfl (fun _ => ?_) (fun h14 => ?_)
        · refine zj_iconst 0 d_M_canDo_162 (by decide) ?_
          exact zj_zretL (by decide) rfl rfl rfl rfl d_M_canDo_163
        refine zj_tsw 3 (3) 126 d_M_canDo_92 (by decide) (by decide) (by decide) rfl rfl (fun _ => ?_) (fun h15 => ?_)
        · refine zj_iload_n d_M_canDo_126 rfl ?_
          refine zj_if_ne 139 d_M_canDo_127 rfl (fun _ => ?_) (fun _ => ?_)
          · refine zj_iconst 1 d_M_canDo_139 (by decide) ?_
            refine zj_goto 144 d_M_canDo_140 rfl ?_
            exact zj_zretL (by decide) rfl rfl rfl rfl d_M_canDo_144
          refine zj_aload_n d_M_canDo_130 rfl ?_
          refine zj_getR fl_M_13 (fun _ _ _ _ => rfl) d_M_canDo_131 (fun v16 => ?_)
          refine zj_iload_n d_M_canDo_134 rfl ?_
          refine zj_zaload d_M_canDo_135 (fun v17 => ?_)
          refine zj_if_ne 143 d_M_canDo_136 rfl (fun _ => ?_) (fun _ => ?_)
          · refine zj_iconst 0 d_M_canDo_143 (by decide) ?_
            exact zj_zretL (by decide) rfl rfl rfl rfl d_M_canDo_144
          refine zj_iconst 1 d_M_canDo_139 (by decide) ?_
          refine zj_goto 144 d_M_canDo_140 rfl ?_
          exact zj_zretL (by decide) rfl rfl rfl rfl d_M_canDo_144
        refine zj_tsw 4 (4) 145 d_M_canDo_92 (by decide) (by decide) (by decide) rfl rfl (fun _ => ?_) (fun h18 => ?_)
        · refine zj_aload_n d_M_canDo_145 rfl ?_
          refine zj_getR fl_M_17 (fun _ _ _ _ => rfl) d_M_canDo_146 (fun v19 => ?_)
          refine zj_iload_n d_M_canDo_149 rfl ?_
          refine zj_iaload d_M_canDo_150 (fun v20 => ?_)
          refine zj_bipush 50 d_M_canDo_151 (by decide) ?_
          refine zj_icmp_le 160 d_M_canDo_153 rfl (fun _ => ?_) (fun _ => ?_)
          · refine zj_iconst 0 d_M_canDo_160 (by decide) ?_
            exact zj_zretL (by decide) rfl rfl rfl rfl d_M_canDo_161
          refine zj_iconst 1 d_M_canDo_156 (by decide) ?_
          refine zj_goto 161 d_M_canDo_157 rfl ?_
          exact zj_zretL (by decide) rfl rfl rfl rfl d_M_canDo_161
        refine zj_tswD 162 d_M_canDo_92 (by have e0 := lv_neT h13 (show (1 : Int32).toInt = 1 by decide); have e1 := lv_neT h14 (show (2 : Int32).toInt = 2 by decide); have e2 := lv_neT h15 (show (3 : Int32).toInt = 3 by decide); have e3 := lv_neT h18 (show (4 : Int32).toInt = 4 by decide); omega) rfl ?_
        refine zj_iconst 0 d_M_canDo_162 (by decide) ?_
        exact zj_zretL (by decide) rfl rfl rfl rfl d_M_canDo_163
      refine zj_icmp_eq 80 d_M_canDo_65 rfl (fun _ => ?_) (fun _ => ?_)
      · refine zj_iconst 1 d_M_canDo_80 (by decide) ?_
        refine zj_goto 85 d_M_canDo_81 rfl ?_
        exact hj10 1
      refine zj_iload_n d_M_canDo_68 rfl ?_
      refine zj_aload_n d_M_canDo_69 rfl ?_
      refine zj_getR fl_M_24 (fun _ _ _ _ => rfl) d_M_canDo_70 (fun v21 => ?_)
      refine zj_iload_n d_M_canDo_73 rfl ?_
      refine zj_iaload d_M_canDo_74 (fun v22 => ?_)
      refine zj_iconst 1 d_M_canDo_75 (by decide) ?_
      refine zj_isub d_M_canDo_76 ?_
      refine zj_icmp_ne 84 d_M_canDo_77 rfl (fun _ => ?_) (fun _ => ?_)
      · refine zj_iconst 0 d_M_canDo_84 (by decide) ?_
        exact hj10 0
      refine zj_iconst 1 d_M_canDo_80 (by decide) ?_
      refine zj_goto 85 d_M_canDo_81 rfl ?_
      exact hj10 1
    refine zj_aload_n d_M_canDo_40 rfl ?_
    refine zj_iload_n d_M_canDo_41 rfl ?_
    refine zj_iload_n d_M_canDo_42 rfl ?_
    refine zj_cVIp (ci := 9) (T := zT9) (N := 53) [.int a1, .int a2] zm_V_M_yearsOf ml_M_140 rfl (fun _ _ h => B_M_yearsOf g (d) h) (Nat.le_refl _) ⟨Nat.zero_le _, Nat.zero_le _⟩ rfl rfl (by decide) d_M_canDo_43 (fun v23 => ?_)
    refine zj_aload_n d_M_canDo_46 rfl ?_
    refine zj_iload_n d_M_canDo_47 rfl ?_
    refine zj_cVIp (ci := 9) (T := zT9) (N := 53) [.int a1] zm_V_M_keeps ml_M_144 rfl (fun _ _ h => B_M_keeps g (d) h) (Nat.le_refl _) ⟨Nat.zero_le _, Nat.zero_le _⟩ rfl rfl (by simp [zcI, zcJ]) d_M_canDo_48 (fun v25 => ?_)
    refine zj_icmp_gt 56 d_M_canDo_51 rfl (fun _ => ?_) (fun _ => ?_)
    · refine zj_iload_n d_M_canDo_56 rfl ?_
      refine zj_aload_n d_M_canDo_57 rfl ?_
      refine zj_getR fl_M_24 (fun _ _ _ _ => rfl) d_M_canDo_58 (fun v27 => ?_)
      refine zj_iload_n d_M_canDo_61 rfl ?_
      refine zj_iaload d_M_canDo_62 (fun v28 => ?_)
      refine zj_iconst 1 d_M_canDo_63 (by decide) ?_
      refine zj_iadd d_M_canDo_64 ?_
      refine zj_jn1 (pcj := 85) (fun x29 => [some (zr g (some this)), some (.int a1), some (.int a2), none]) (fun x29 => [.int x29]) (fun x29 => u0) (fun x29 => ?_) (fun j30 hj30 => ?_)
      · refine zj_istore_n [some (zr g (some this)), some (.int a1), some (.int a2), some (.int x29)] d_M_canDo_85 (by decide) rfl rfl ?_
        refine zj_aload_n d_M_canDo_86 rfl ?_
        refine zj_getR fl_M_21 (fun _ _ _ _ => rfl) d_M_canDo_87 (fun v31 => ?_)
        refine zj_iload_n d_M_canDo_90 rfl ?_
        refine zj_iaload d_M_canDo_91 (fun v32 => ?_)
        refine zj_tsw 1 (1) 124 d_M_canDo_92 (by decide) (by decide) (by decide) rfl rfl (fun _ => ?_) (fun h33 => ?_)
        · refine zj_iload_n d_M_canDo_124 rfl ?_
          exact zj_zret rfl rfl rfl rfl d_M_canDo_125
        refine zj_tsw 2 (2) 162 d_M_canDo_92 (by decide) (by decide) (by decide) rfl rfl (fun _ => ?_) (fun h34 => ?_)
        · refine zj_iconst 0 d_M_canDo_162 (by decide) ?_
          exact zj_zretL (by decide) rfl rfl rfl rfl d_M_canDo_163
        refine zj_tsw 3 (3) 126 d_M_canDo_92 (by decide) (by decide) (by decide) rfl rfl (fun _ => ?_) (fun h35 => ?_)
        · refine zj_iload_n d_M_canDo_126 rfl ?_
          refine zj_if_ne 139 d_M_canDo_127 rfl (fun _ => ?_) (fun _ => ?_)
          · refine zj_iconst 1 d_M_canDo_139 (by decide) ?_
            refine zj_goto 144 d_M_canDo_140 rfl ?_
            exact zj_zretL (by decide) rfl rfl rfl rfl d_M_canDo_144
          refine zj_aload_n d_M_canDo_130 rfl ?_
          refine zj_getR fl_M_13 (fun _ _ _ _ => rfl) d_M_canDo_131 (fun v36 => ?_)
          refine zj_iload_n d_M_canDo_134 rfl ?_
          refine zj_zaload d_M_canDo_135 (fun v37 => ?_)
          refine zj_if_ne 143 d_M_canDo_136 rfl (fun _ => ?_) (fun _ => ?_)
          · refine zj_iconst 0 d_M_canDo_143 (by decide) ?_
            exact zj_zretL (by decide) rfl rfl rfl rfl d_M_canDo_144
          refine zj_iconst 1 d_M_canDo_139 (by decide) ?_
          refine zj_goto 144 d_M_canDo_140 rfl ?_
          exact zj_zretL (by decide) rfl rfl rfl rfl d_M_canDo_144
        refine zj_tsw 4 (4) 145 d_M_canDo_92 (by decide) (by decide) (by decide) rfl rfl (fun _ => ?_) (fun h38 => ?_)
        · refine zj_aload_n d_M_canDo_145 rfl ?_
          refine zj_getR fl_M_17 (fun _ _ _ _ => rfl) d_M_canDo_146 (fun v39 => ?_)
          refine zj_iload_n d_M_canDo_149 rfl ?_
          refine zj_iaload d_M_canDo_150 (fun v40 => ?_)
          refine zj_bipush 50 d_M_canDo_151 (by decide) ?_
          refine zj_icmp_le 160 d_M_canDo_153 rfl (fun _ => ?_) (fun _ => ?_)
          · refine zj_iconst 0 d_M_canDo_160 (by decide) ?_
            exact zj_zretL (by decide) rfl rfl rfl rfl d_M_canDo_161
          refine zj_iconst 1 d_M_canDo_156 (by decide) ?_
          refine zj_goto 161 d_M_canDo_157 rfl ?_
          exact zj_zretL (by decide) rfl rfl rfl rfl d_M_canDo_161
        refine zj_tswD 162 d_M_canDo_92 (by have e0 := lv_neT h33 (show (1 : Int32).toInt = 1 by decide); have e1 := lv_neT h34 (show (2 : Int32).toInt = 2 by decide); have e2 := lv_neT h35 (show (3 : Int32).toInt = 3 by decide); have e3 := lv_neT h38 (show (4 : Int32).toInt = 4 by decide); omega) rfl ?_
        refine zj_iconst 0 d_M_canDo_162 (by decide) ?_
        exact zj_zretL (by decide) rfl rfl rfl rfl d_M_canDo_163
      refine zj_icmp_eq 80 d_M_canDo_65 rfl (fun _ => ?_) (fun _ => ?_)
      · refine zj_iconst 1 d_M_canDo_80 (by decide) ?_
        refine zj_goto 85 d_M_canDo_81 rfl ?_
        exact hj30 1
      refine zj_iload_n d_M_canDo_68 rfl ?_
      refine zj_aload_n d_M_canDo_69 rfl ?_
      refine zj_getR fl_M_24 (fun _ _ _ _ => rfl) d_M_canDo_70 (fun v41 => ?_)
      refine zj_iload_n d_M_canDo_73 rfl ?_
      refine zj_iaload d_M_canDo_74 (fun v42 => ?_)
      refine zj_iconst 1 d_M_canDo_75 (by decide) ?_
      refine zj_isub d_M_canDo_76 ?_
      refine zj_icmp_ne 84 d_M_canDo_77 rfl (fun _ => ?_) (fun _ => ?_)
      · refine zj_iconst 0 d_M_canDo_84 (by decide) ?_
        exact hj30 0
      refine zj_iconst 1 d_M_canDo_80 (by decide) ?_
      refine zj_goto 85 d_M_canDo_81 rfl ?_
      exact hj30 1
    refine zj_iconst 1 d_M_canDo_54 (by decide) ?_
    exact zj_zretL (by decide) rfl rfl rfl rfl d_M_canDo_55
  refine zj_iconst 0 d_M_canDo_14 (by decide) ?_
  exact zj_zretL (by decide) rfl rfl rfl rfl d_M_canDo_15
def F_M_count (u0 : zS) (this : Nat) (a1 : Int32) : Option (Int32) := if a1 = 0 then ((zgI u0 9 (some this) 1).bind fun v2 => some v2) else if a1 = 1 then ((zgI u0 9 (some this) 4).bind fun v4 => some v4) else if a1 = 2 then ((zgI u0 9 (some this) 10).bind fun v6 => some v6) else if a1 = 3 then ((zgI u0 9 (some this) 16).bind fun v8 => some v8) else if a1 = 4 then ((zgI u0 9 (some this) 15).bind fun v10 => some v10) else if a1 = 5 then ((zgI u0 9 (some this) 17).bind fun v12 => some v12) else if a1 = 6 then (zfix2 (fun (r14 : Int32 → Int32 → Option (Int32)) (x15 : Int32) (x16 : Int32) => (zgI u0 9 (some this) 1).bind fun v17 => if v17 ≤ x16 then (some x15) else ((zgR u0 9 (some this) 2).bind fun v18 => (zaI u0 .boolean v18 x16).bind fun v19 => if v19 = 0 then (r14 (x15 + 0) (x16 + 1)) else (r14 (x15 + 1) (x16 + 1)))) zFU 0 0) else if a1 = 7 then (zfix2 (fun (r21 : Int32 → Int32 → Option (Int32)) (x22 : Int32) (x23 : Int32) => (zgI u0 9 (some this) 4).bind fun v24 => if v24 ≤ x23 then (some x22) else ((zob u0 9 (some this)).bind fun q26 => (F_M_taughtMany u0 q26 x23).bind fun v25 => r21 (x22 + v25) (x23 + 1))) zFU 0 0) else (some (-2))
set_option maxHeartbeats 4000000 in
set_option maxRecDepth 100000 in
theorem B_M_count (g : zG) (d : Nat) {u0 : zS} {this : Nat} {a1 : Int32} {o : Int32} (h : F_M_count u0 this a1 = some o) : zMt g zy_M_count (d + 2) 0 0 [zr g (some this), .int a1] u0 (some (.int o)) u0 := by
  refine zMt_of2 (ls := [some (zr g (some this)), some (.int a1), none, none]) 2 (by decide +kernel) (by simp [lg_sl, zr_cat, zcI, zcJ]) (by simp [zal, zr_cat, zcI, zcJ, List.replicate]) ?_
  revert h
  show zJ g zy_M_count (d + 2) 0 0 (zwIp u0) o 0 0 0 [some (zr g (some this)), some (.int a1), none, none] [] u0 (F_M_count u0 this a1)
  unfold F_M_count
  refine zj_iconst 0 d_M_count_0 (by decide) ?_
  refine zj_istore_n [some (zr g (some this)), some (.int a1), some (.int 0), none] d_M_count_1 (by decide) rfl rfl ?_
  refine zj_iload_n d_M_count_2 rfl ?_
  refine zj_tsw 0 (0) 48 d_M_count_3 (by decide) (by decide) (by decide) rfl rfl (fun _ => ?_) (fun h1 => ?_)
  · refine zj_aload_n d_M_count_48 rfl ?_
    refine zj_getI fl_M_106 (fun _ _ _ _ => rfl) d_M_count_49 (fun v2 => ?_)
    exact zj_iret rfl rfl rfl rfl d_M_count_52
  refine zj_tsw 1 (1) 53 d_M_count_3 (by decide) (by decide) (by decide) rfl rfl (fun _ => ?_) (fun h3 => ?_)
  · refine zj_aload_n d_M_count_53 rfl ?_
    refine zj_getI fl_M_113 (fun _ _ _ _ => rfl) d_M_count_54 (fun v4 => ?_)
    exact zj_iret rfl rfl rfl rfl d_M_count_57
  refine zj_tsw 2 (2) 58 d_M_count_3 (by decide) (by decide) (by decide) rfl rfl (fun _ => ?_) (fun h5 => ?_)
  · refine zj_aload_n d_M_count_58 rfl ?_
    refine zj_getI fl_M_130 (fun _ _ _ _ => rfl) d_M_count_59 (fun v6 => ?_)
    exact zj_iret rfl rfl rfl rfl d_M_count_62
  refine zj_tsw 3 (3) 63 d_M_count_3 (by decide) (by decide) (by decide) rfl rfl (fun _ => ?_) (fun h7 => ?_)
  · refine zj_aload_n d_M_count_63 rfl ?_
    refine zj_getI fl_M_103 (fun _ _ _ _ => rfl) d_M_count_64 (fun v8 => ?_)
    exact zj_iret rfl rfl rfl rfl d_M_count_67
  refine zj_tsw 4 (4) 68 d_M_count_3 (by decide) (by decide) (by decide) rfl rfl (fun _ => ?_) (fun h9 => ?_)
  · refine zj_aload_n d_M_count_68 rfl ?_
    refine zj_getI fl_M_161 (fun _ _ _ _ => rfl) d_M_count_69 (fun v10 => ?_)
    exact zj_iret rfl rfl rfl rfl d_M_count_72
  refine zj_tsw 5 (5) 73 d_M_count_3 (by decide) (by decide) (by decide) rfl rfl (fun _ => ?_) (fun h11 => ?_)
  · refine zj_aload_n d_M_count_73 rfl ?_
    refine zj_getI fl_M_253 (fun _ _ _ _ => rfl) d_M_count_74 (fun v12 => ?_)
    exact zj_iret rfl rfl rfl rfl d_M_count_77
  refine zj_tsw 6 (6) 78 d_M_count_3 (by decide) (by decide) (by decide) rfl rfl (fun _ => ?_) (fun h13 => ?_)
  · refine zj_iconst 0 d_M_count_78 (by decide) ?_
    refine zj_istore_n [some (zr g (some this)), some (.int a1), some (.int 0), some (.int 0)] d_M_count_79 (by decide) rfl rfl ?_
    refine zj_cut [some (zr g (some this)), none, some (.int 0), some (.int 0)] ⟨rfl, ⟨rfl, ⟨rfl, trivial⟩⟩⟩ ?_
    refine zj_fix2 (fun x15 x16 => [some (zr g (some this)), none, some (.int x15), some (.int x16)]) (fun x15 x16 => u0) (fun r14 hr14 x15 x16 => ?_) 0 0
    refine zj_iload_n d_M_count_80 rfl ?_
    refine zj_aload_n d_M_count_81 rfl ?_
    refine zj_getI fl_M_106 (fun _ _ _ _ => rfl) d_M_count_82 (fun v17 => ?_)
    refine zj_icmp_ge 111 d_M_count_85 rfl (fun _ => ?_) (fun _ => ?_)
    · refine zj_iload_n d_M_count_111 rfl ?_
      exact zj_iret rfl rfl rfl rfl d_M_count_112
    refine zj_iload_n d_M_count_88 rfl ?_
    refine zj_aload_n d_M_count_89 rfl ?_
    refine zj_getR fl_M_13 (fun _ _ _ _ => rfl) d_M_count_90 (fun v18 => ?_)
    refine zj_iload_n d_M_count_93 rfl ?_
    refine zj_zaload d_M_count_94 (fun v19 => ?_)
    refine zj_if_eq 102 d_M_count_95 rfl (fun _ => ?_) (fun _ => ?_)
    · refine zj_iconst 0 d_M_count_102 (by decide) ?_
      refine zj_iadd d_M_count_103 ?_
      refine zj_istore_n [some (zr g (some this)), none, some (.int (x15 + 0)), some (.int x16)] d_M_count_104 (by decide) rfl rfl ?_
      refine zj_iinc (v := (x16 + 1)) [some (zr g (some this)), none, some (.int (x15 + 0)), some (.int (x16 + 1))] d_M_count_105 rfl rfl (by decide) rfl rfl ?_
      refine zj_goto 80 d_M_count_108 rfl ?_
      exact hr14 (x15 + 0) (x16 + 1)
    refine zj_iconst 1 d_M_count_98 (by decide) ?_
    refine zj_goto 103 d_M_count_99 rfl ?_
    refine zj_iadd d_M_count_103 ?_
    refine zj_istore_n [some (zr g (some this)), none, some (.int (x15 + 1)), some (.int x16)] d_M_count_104 (by decide) rfl rfl ?_
    refine zj_iinc (v := (x16 + 1)) [some (zr g (some this)), none, some (.int (x15 + 1)), some (.int (x16 + 1))] d_M_count_105 rfl rfl (by decide) rfl rfl ?_
    refine zj_goto 80 d_M_count_108 rfl ?_
    exact hr14 (x15 + 1) (x16 + 1)
  refine zj_tsw 7 (7) 113 d_M_count_3 (by decide) (by decide) (by decide) rfl rfl (fun _ => ?_) (fun h20 => ?_)
  · refine zj_iconst 0 d_M_count_113 (by decide) ?_
    refine zj_istore_n [some (zr g (some this)), some (.int a1), some (.int 0), some (.int 0)] d_M_count_114 (by decide) rfl rfl ?_
    refine zj_cut [some (zr g (some this)), none, some (.int 0), some (.int 0)] ⟨rfl, ⟨rfl, ⟨rfl, trivial⟩⟩⟩ ?_
    refine zj_fix2 (fun x22 x23 => [some (zr g (some this)), none, some (.int x22), some (.int x23)]) (fun x22 x23 => u0) (fun r21 hr21 x22 x23 => ?_) 0 0
    refine zj_iload_n d_M_count_115 rfl ?_
    refine zj_aload_n d_M_count_116 rfl ?_
    refine zj_getI fl_M_113 (fun _ _ _ _ => rfl) d_M_count_117 (fun v24 => ?_)
    refine zj_icmp_ge 137 d_M_count_120 rfl (fun _ => ?_) (fun _ => ?_)
    · refine zj_iload_n d_M_count_137 rfl ?_
      exact zj_iret rfl rfl rfl rfl d_M_count_138
    refine zj_iload_n d_M_count_123 rfl ?_
    refine zj_aload_n d_M_count_124 rfl ?_
    refine zj_iload_n d_M_count_125 rfl ?_
    refine zj_cVIp (ci := 9) (T := zT9) (N := 53) [.int x23] zm_V_M_taughtMany ml_M_136 rfl (fun _ _ h => B_M_taughtMany g (d) h) (Nat.le_refl _) ⟨Nat.zero_le _, Nat.zero_le _⟩ rfl rfl (by simp [zcI, zcJ]) d_M_count_126 (fun v25 => ?_)
    refine zj_iadd d_M_count_129 ?_
    refine zj_istore_n [some (zr g (some this)), none, some (.int (x22 + v25)), some (.int x23)] d_M_count_130 (by decide) rfl rfl ?_
    refine zj_iinc (v := (x23 + 1)) [some (zr g (some this)), none, some (.int (x22 + v25)), some (.int (x23 + 1))] d_M_count_131 rfl rfl (by decide) rfl rfl ?_
    refine zj_goto 115 d_M_count_134 rfl ?_
    exact hr21 (x22 + v25) (x23 + 1)
  refine zj_tswD 139 d_M_count_3 (by have e0 := lv_neT h1 (show (0 : Int32).toInt = 0 by decide); have e1 := lv_neT h3 (show (1 : Int32).toInt = 1 by decide); have e2 := lv_neT h5 (show (2 : Int32).toInt = 2 by decide); have e3 := lv_neT h7 (show (3 : Int32).toInt = 3 by decide); have e4 := lv_neT h9 (show (4 : Int32).toInt = 4 by decide); have e5 := lv_neT h11 (show (5 : Int32).toInt = 5 by decide); have e6 := lv_neT h13 (show (6 : Int32).toInt = 6 by decide); have e7 := lv_neT h20 (show (7 : Int32).toInt = 7 by decide); omega) rfl ?_
  refine zj_bipush (-2) d_M_count_139 (by decide) ?_
  exact zj_iret rfl rfl rfl rfl d_M_count_141
def F_M_feed (u0 : zS) (this : Nat) (a1 : Int32) (a2 : Int64) : Option (Int32 × zS) := (F_M_in u0 ((a1 : Int32).toInt64) 1 8).bind fun v1 => if v1 = 0 then (some ((-2), u0)) else ((zgI u0 9 (some this) 15).bind fun v2 => if (v2 + a1) ≤ 160 then (zfix2 (fun (r3 : zS → Int32 → Option (Int32 × zS)) (u4 : zS) (x5 : Int32) => if a1 ≤ x5 then ((zgI u4 9 (some this) 15).bind fun v6 => some (v6, u4)) else ((zgR u4 9 (some this) 14).bind fun v7 => (zgI u4 9 (some this) 15).bind fun v8 => (zsI u4 v7 v8 (((((a2 : Int64) >>> ((((8 : Int32) * x5) : Int32).toInt64 &&& 63)) &&& 255) : Int64).toInt32)).bind fun u9 => (zgI u9 9 (some this) 15).bind fun v10 => (zpI u9 9 (some this) 15 (v10 + 1)).bind fun u11 => r3 u11 (x5 + 1))) zFU u0 0) else (some ((-4), u0)))
set_option maxHeartbeats 4000000 in
set_option maxRecDepth 100000 in
theorem B_M_feed (g : zG) (d : Nat) {u0 : zS} {this : Nat} {a1 : Int32} {a2 : Int64} {o : Int32 × zS} (h : F_M_feed u0 this a1 a2 = some o) : zMt g zy_M_feed (d + 2) 0 0 [zr g (some this), .int a1, .long a2] u0 (some (.int o.1)) o.2 := by
  refine zMt_of2 (ls := [some (zr g (some this)), some (.int a1), some (.long a2), none, none]) 1 (by decide +kernel) (by simp [lg_sl, zr_cat, zcI, zcJ]) (by simp [zal, zr_cat, zcI, zcJ, List.replicate]) ?_
  revert h
  show zJ g zy_M_feed (d + 2) 0 0 zwI o 0 0 0 [some (zr g (some this)), some (.int a1), some (.long a2), none, none] [] u0 (F_M_feed u0 this a1 a2)
  unfold F_M_feed
  refine zj_iload_n d_M_feed_0 rfl ?_
  refine zj_i2l d_M_feed_1 ?_
  refine zj_lconst 1 d_M_feed_2 (by decide) ?_
  refine zj_ldc2 cl_M_159 d_M_feed_3 ?_
  refine zj_cSIp [.long ((a1 : Int32).toInt64), .long 1, .long 8] zm_S_M_in ml_M_109 (fun _ h => B_M_in g (d) h) (Nat.le_refl _) ⟨Nat.zero_le _, Nat.zero_le _⟩ rfl rfl (by decide) d_M_feed_6 (fun v1 => ?_)
  refine zj_if_ne 15 d_M_feed_9 rfl (fun _ => ?_) (fun _ => ?_)
  · refine zj_aload_n d_M_feed_15 rfl ?_
    refine zj_getI fl_M_161 (fun _ _ _ _ => rfl) d_M_feed_16 (fun v2 => ?_)
    refine zj_iload_n d_M_feed_19 rfl ?_
    refine zj_iadd d_M_feed_20 ?_
    refine zj_sipush 160 d_M_feed_21 (by decide) ?_
    refine zj_icmp_le 30 d_M_feed_24 rfl (fun _ => ?_) (fun _ => ?_)
    · refine zj_iconst 0 d_M_feed_30 (by decide) ?_
      refine zj_istore [some (zr g (some this)), some (.int a1), some (.long a2), none, some (.int 0)] d_M_feed_31 (by decide) rfl rfl ?_
      refine zj_fix2 (fun u4 x5 => [some (zr g (some this)), some (.int a1), some (.long a2), none, some (.int x5)]) (fun u4 x5 => u4) (fun r3 hr3 u4 x5 => ?_) u0 0
      refine zj_iload d_M_feed_33 rfl ?_
      refine zj_iload_n d_M_feed_35 rfl ?_
      refine zj_icmp_ge 76 d_M_feed_36 rfl (fun _ => ?_) (fun _ => ?_)
      · refine zj_aload_n d_M_feed_76 rfl ?_
        refine zj_getI fl_M_161 (fun _ _ _ _ => rfl) d_M_feed_77 (fun v6 => ?_)
        exact zj_iret rfl rfl rfl rfl d_M_feed_80
      refine zj_aload_n d_M_feed_39 rfl ?_
      refine zj_getR fl_M_45 (fun _ _ _ _ => rfl) d_M_feed_40 (fun v7 => ?_)
      refine zj_aload_n d_M_feed_43 rfl ?_
      refine zj_getI fl_M_161 (fun _ _ _ _ => rfl) d_M_feed_44 (fun v8 => ?_)
      refine zj_lload_n d_M_feed_47 rfl ?_
      refine zj_bipush 8 d_M_feed_48 (by decide) ?_
      refine zj_iload d_M_feed_50 rfl ?_
      refine zj_imul d_M_feed_52 ?_
      refine zj_lshr d_M_feed_53 ?_
      refine zj_ldc2 cl_M_164 d_M_feed_54 ?_
      refine zj_land d_M_feed_57 ?_
      refine zj_l2i d_M_feed_58 ?_
      refine zj_iastore d_M_feed_59 (fun u9 => ?_)
      refine zj_aload_n d_M_feed_60 rfl ?_
      refine zj_dup d_M_feed_61 (zr_cat _ _) ?_
      refine zj_getI fl_M_161 (fun _ _ _ _ => rfl) d_M_feed_62 (fun v10 => ?_)
      refine zj_iconst 1 d_M_feed_65 (by decide) ?_
      refine zj_iadd d_M_feed_66 ?_
      refine zj_putI fl_M_161 (fun _ _ _ _ => rfl) ⟨rfl, rfl⟩ d_M_feed_67 (fun u11 => ?_)
      refine zj_iinc (v := (x5 + 1)) [some (zr g (some this)), some (.int a1), some (.long a2), none, some (.int (x5 + 1))] d_M_feed_70 rfl rfl (by decide) rfl rfl ?_
      refine zj_goto 33 d_M_feed_73 rfl ?_
      exact hr3 u11 (x5 + 1)
    refine zj_bipush (-4) d_M_feed_27 (by decide) ?_
    exact zj_iret rfl rfl rfl rfl d_M_feed_29
  refine zj_bipush (-2) d_M_feed_12 (by decide) ?_
  exact zj_iret rfl rfl rfl rfl d_M_feed_14
def F_M_first (u0 : zS) (this : Nat) : Option (Int32) := zfix3 (fun (r1 : Int32 → Int32 → Int32 → Option (Int32)) (x2 : Int32) (x3 : Int32) (x4 : Int32) => (zgI u0 9 (some this) 4).bind fun v5 => if v5 ≤ x4 then (some x2) else (zfix3 (fun (r6 : Int32 → Int32 → Int32 → Option (Int32)) (x7 : Int32) (x8 : Int32) (x9 : Int32) => (zgI u0 9 (some this) 1).bind fun v10 => if v10 ≤ x9 then (r1 x7 x8 (x4 + 1)) else ((zob u0 9 (some this)).bind fun q12 => (F_M_keeps u0 q12 x4).bind fun v11 => (zob u0 9 (some this)).bind fun q14 => (F_M_yearsOf u0 q14 x4 x9).bind fun v13 => (zgR u0 9 (some this) 12).bind fun v15 => (zaI u0 .boolean v15 (((6 : Int32) * x4) + x9)).bind fun v16 => zjn1 (fun (j18 : Int32 → Option (Int32)) => if v16 = 0 then (j18 0) else ((zgR u0 9 (some this) 13).bind fun v21 => (zaI u0 .boolean v21 (((6 : Int32) * x4) + x9)).bind fun v22 => if v22 = 0 then (if (v11 - v13) < 0 then (j18 0) else (j18 1)) else (j18 0))) (fun (x17 : Int32) => if x17 = 0 then (r6 x7 x8 (x9 + 1)) else (if x7 < 0 then (zlet ((((10 : Int32) * x4) + x9) : Int32) fun x19 => r6 x19 (v11 - v13) (x9 + 1)) else (if x8 ≤ (v11 - v13) then (r6 x7 x8 (x9 + 1)) else (zlet ((((10 : Int32) * x4) + x9) : Int32) fun x20 => r6 x20 (v11 - v13) (x9 + 1))))))) zFU x2 x3 0)) zFU (-1) 0 0
set_option maxHeartbeats 4000000 in
set_option maxRecDepth 100000 in
theorem B_M_first (g : zG) (d : Nat) {u0 : zS} {this : Nat} {o : Int32} (h : F_M_first u0 this = some o) : zMt g zy_M_first (d + 2) 0 0 [zr g (some this)] u0 (some (.int o)) u0 := by
  refine zMt_of2 (ls := [some (zr g (some this)), none, none, none, none, none, none]) 6 (by decide +kernel) (by simp [lg_sl, zr_cat, zcI, zcJ]) (by simp [zal, zr_cat, zcI, zcJ, List.replicate]) ?_
  revert h
  show zJ g zy_M_first (d + 2) 0 0 (zwIp u0) o 0 0 0 [some (zr g (some this)), none, none, none, none, none, none] [] u0 (F_M_first u0 this)
  unfold F_M_first
  refine zj_iconst (-1) d_M_first_0 (by decide) ?_
  refine zj_istore_n [some (zr g (some this)), some (.int (-1)), none, none, none, none, none] d_M_first_1 (by decide) rfl rfl ?_
  refine zj_iconst 0 d_M_first_2 (by decide) ?_
  refine zj_istore_n [some (zr g (some this)), some (.int (-1)), some (.int 0), none, none, none, none] d_M_first_3 (by decide) rfl rfl ?_
  refine zj_iconst 0 d_M_first_4 (by decide) ?_
  refine zj_istore_n [some (zr g (some this)), some (.int (-1)), some (.int 0), some (.int 0), none, none, none] d_M_first_5 (by decide) rfl rfl ?_
  refine zj_fix3 (fun x2 x3 x4 => [some (zr g (some this)), some (.int x2), some (.int x3), some (.int x4), none, none, none]) (fun x2 x3 x4 => u0) (fun r1 hr1 x2 x3 x4 => ?_) (-1) 0 0
  refine zj_iload_n d_M_first_6 rfl ?_
  refine zj_aload_n d_M_first_7 rfl ?_
  refine zj_getI fl_M_113 (fun _ _ _ _ => rfl) d_M_first_8 (fun v5 => ?_)
  refine zj_icmp_ge 121 d_M_first_11 rfl (fun _ => ?_) (fun _ => ?_)
  · refine zj_iload_n d_M_first_121 rfl ?_
    exact zj_iret rfl rfl rfl rfl d_M_first_122
  refine zj_iconst 0 d_M_first_14 (by decide) ?_
  refine zj_istore [some (zr g (some this)), some (.int x2), some (.int x3), some (.int x4), some (.int 0), none, none] d_M_first_15 (by decide) rfl rfl ?_
  refine zj_fix3 (fun x7 x8 x9 => [some (zr g (some this)), some (.int x7), some (.int x8), some (.int x4), some (.int x9), none, none]) (fun x7 x8 x9 => u0) (fun r6 hr6 x7 x8 x9 => ?_) x2 x3 0
  refine zj_iload d_M_first_17 rfl ?_
  refine zj_aload_n d_M_first_19 rfl ?_
  refine zj_getI fl_M_106 (fun _ _ _ _ => rfl) d_M_first_20 (fun v10 => ?_)
  refine zj_icmp_ge 115 d_M_first_23 rfl (fun _ => ?_) (fun _ => ?_)
  · refine zj_iinc (v := (x4 + 1)) [some (zr g (some this)), some (.int x7), some (.int x8), some (.int (x4 + 1)), some (.int x9), none, none] d_M_first_115 rfl rfl (by decide) rfl rfl ?_
    refine zj_goto 6 d_M_first_118 rfl ?_
    refine zj_cut [some (zr g (some this)), some (.int x7), some (.int x8), some (.int (x4 + 1)), none, none, none] ⟨rfl, ⟨rfl, ⟨rfl, ⟨rfl, trivial⟩⟩⟩⟩ ?_
    exact hr1 x7 x8 (x4 + 1)
  refine zj_aload_n d_M_first_26 rfl ?_
  refine zj_iload_n d_M_first_27 rfl ?_
  refine zj_cVIp (ci := 9) (T := zT9) (N := 53) [.int x4] zm_V_M_keeps ml_M_144 rfl (fun _ _ h => B_M_keeps g (d) h) (Nat.le_refl _) ⟨Nat.zero_le _, Nat.zero_le _⟩ rfl rfl (by decide) d_M_first_28 (fun v11 => ?_)
  refine zj_aload_n d_M_first_31 rfl ?_
  refine zj_iload_n d_M_first_32 rfl ?_
  refine zj_iload d_M_first_33 rfl ?_
  refine zj_cVIp (ci := 9) (T := zT9) (N := 53) [.int x4, .int x9] zm_V_M_yearsOf ml_M_140 rfl (fun _ _ h => B_M_yearsOf g (d) h) (Nat.le_refl _) ⟨Nat.zero_le _, Nat.zero_le _⟩ rfl rfl (by simp [zcI, zcJ]) d_M_first_35 (fun v13 => ?_)
  refine zj_isub d_M_first_38 ?_
  refine zj_istore [some (zr g (some this)), some (.int x7), some (.int x8), some (.int x4), some (.int x9), some (.int (v11 - v13)), none] d_M_first_39 (by decide) rfl rfl ?_
  refine zj_aload_n d_M_first_41 rfl ?_
  refine zj_getR fl_M_39 (fun _ _ _ _ => rfl) d_M_first_42 (fun v15 => ?_)
  refine zj_bipush 6 d_M_first_45 (by decide) ?_
  refine zj_iload_n d_M_first_47 rfl ?_
  refine zj_imul d_M_first_48 ?_
  refine zj_iload d_M_first_49 rfl ?_
  refine zj_iadd d_M_first_51 ?_
  refine zj_zaload d_M_first_52 (fun v16 => ?_)
  refine zj_jn1 (pcj := 81) (fun x17 => [some (zr g (some this)), some (.int x7), some (.int x8), some (.int x4), some (.int x9), some (.int (v11 - v13)), none]) (fun x17 => [.int x17]) (fun x17 => u0) (fun x17 => ?_) (fun j18 hj18 => ?_)
  · refine zj_istore [some (zr g (some this)), some (.int x7), some (.int x8), some (.int x4), some (.int x9), some (.int (v11 - v13)), some (.int x17)] d_M_first_81 (by decide) rfl rfl ?_
    refine zj_iload d_M_first_83 rfl ?_
    refine zj_if_eq 109 d_M_first_85 rfl (fun _ => ?_) (fun _ => ?_)
    · refine zj_iinc (v := (x9 + 1)) [some (zr g (some this)), some (.int x7), some (.int x8), some (.int x4), some (.int (x9 + 1)), some (.int (v11 - v13)), some (.int x17)] d_M_first_109 rfl rfl (by decide) rfl rfl ?_
      refine zj_goto 17 d_M_first_112 rfl ?_
      refine zj_cut [some (zr g (some this)), some (.int x7), some (.int x8), some (.int x4), some (.int (x9 + 1)), none, none] ⟨rfl, ⟨rfl, ⟨rfl, ⟨rfl, ⟨rfl, trivial⟩⟩⟩⟩⟩ ?_
      exact hr6 x7 x8 (x9 + 1)
    refine zj_iload_n d_M_first_88 rfl ?_
    refine zj_if_lt 98 d_M_first_89 rfl (fun _ => ?_) (fun _ => ?_)
    · refine zj_bipush 10 d_M_first_98 (by decide) ?_
      refine zj_iload_n d_M_first_100 rfl ?_
      refine zj_imul d_M_first_101 ?_
      refine zj_iload d_M_first_102 rfl ?_
      refine zj_iadd d_M_first_104 ?_
      refine zj_letI (fun x19 => ?_)
      refine zj_istore_n [some (zr g (some this)), some (.int x19), some (.int x8), some (.int x4), some (.int x9), some (.int (v11 - v13)), some (.int x17)] d_M_first_105 (by decide) rfl rfl ?_
      refine zj_iload d_M_first_106 rfl ?_
      refine zj_istore_n [some (zr g (some this)), some (.int x19), some (.int (v11 - v13)), some (.int x4), some (.int x9), some (.int (v11 - v13)), some (.int x17)] d_M_first_108 (by decide) rfl rfl ?_
      refine zj_iinc (v := (x9 + 1)) [some (zr g (some this)), some (.int x19), some (.int (v11 - v13)), some (.int x4), some (.int (x9 + 1)), some (.int (v11 - v13)), some (.int x17)] d_M_first_109 rfl rfl (by decide) rfl rfl ?_
      refine zj_goto 17 d_M_first_112 rfl ?_
      refine zj_cut [some (zr g (some this)), some (.int x19), some (.int (v11 - v13)), some (.int x4), some (.int (x9 + 1)), none, none] ⟨rfl, ⟨rfl, ⟨rfl, ⟨rfl, ⟨rfl, trivial⟩⟩⟩⟩⟩ ?_
      exact hr6 x19 (v11 - v13) (x9 + 1)
    refine zj_iload d_M_first_92 rfl ?_
    refine zj_iload_n d_M_first_94 rfl ?_
    refine zj_icmp_ge 109 d_M_first_95 rfl (fun _ => ?_) (fun _ => ?_)
    · refine zj_iinc (v := (x9 + 1)) [some (zr g (some this)), some (.int x7), some (.int x8), some (.int x4), some (.int (x9 + 1)), some (.int (v11 - v13)), some (.int x17)] d_M_first_109 rfl rfl (by decide) rfl rfl ?_
      refine zj_goto 17 d_M_first_112 rfl ?_
      refine zj_cut [some (zr g (some this)), some (.int x7), some (.int x8), some (.int x4), some (.int (x9 + 1)), none, none] ⟨rfl, ⟨rfl, ⟨rfl, ⟨rfl, ⟨rfl, trivial⟩⟩⟩⟩⟩ ?_
      exact hr6 x7 x8 (x9 + 1)
    refine zj_bipush 10 d_M_first_98 (by decide) ?_
    refine zj_iload_n d_M_first_100 rfl ?_
    refine zj_imul d_M_first_101 ?_
    refine zj_iload d_M_first_102 rfl ?_
    refine zj_iadd d_M_first_104 ?_
    refine zj_letI (fun x20 => ?_)
    refine zj_istore_n [some (zr g (some this)), some (.int x20), some (.int x8), some (.int x4), some (.int x9), some (.int (v11 - v13)), some (.int x17)] d_M_first_105 (by decide) rfl rfl ?_
    refine zj_iload d_M_first_106 rfl ?_
    refine zj_istore_n [some (zr g (some this)), some (.int x20), some (.int (v11 - v13)), some (.int x4), some (.int x9), some (.int (v11 - v13)), some (.int x17)] d_M_first_108 (by decide) rfl rfl ?_
    refine zj_iinc (v := (x9 + 1)) [some (zr g (some this)), some (.int x20), some (.int (v11 - v13)), some (.int x4), some (.int (x9 + 1)), some (.int (v11 - v13)), some (.int x17)] d_M_first_109 rfl rfl (by decide) rfl rfl ?_
    refine zj_goto 17 d_M_first_112 rfl ?_
    refine zj_cut [some (zr g (some this)), some (.int x20), some (.int (v11 - v13)), some (.int x4), some (.int (x9 + 1)), none, none] ⟨rfl, ⟨rfl, ⟨rfl, ⟨rfl, ⟨rfl, trivial⟩⟩⟩⟩⟩ ?_
    exact hr6 x20 (v11 - v13) (x9 + 1)
  refine zj_if_eq 80 d_M_first_53 rfl (fun _ => ?_) (fun _ => ?_)
  · refine zj_iconst 0 d_M_first_80 (by decide) ?_
    exact hj18 0
  refine zj_aload_n d_M_first_56 rfl ?_
  refine zj_getR fl_M_42 (fun _ _ _ _ => rfl) d_M_first_57 (fun v21 => ?_)
  refine zj_bipush 6 d_M_first_60 (by decide) ?_
  refine zj_iload_n d_M_first_62 rfl ?_
  refine zj_imul d_M_first_63 ?_
  refine zj_iload d_M_first_64 rfl ?_
  refine zj_iadd d_M_first_66 ?_
  refine zj_zaload d_M_first_67 (fun v22 => ?_)
  refine zj_if_ne 80 d_M_first_68 rfl (fun _ => ?_) (fun _ => ?_)
  · refine zj_iconst 0 d_M_first_80 (by decide) ?_
    exact hj18 0
  refine zj_iload d_M_first_71 rfl ?_
  refine zj_if_lt 80 d_M_first_73 rfl (fun _ => ?_) (fun _ => ?_)
  · refine zj_iconst 0 d_M_first_80 (by decide) ?_
    exact hj18 0
  refine zj_iconst 1 d_M_first_76 (by decide) ?_
  refine zj_goto 81 d_M_first_77 rfl ?_
  exact hj18 1
def F_M_force (u0 : zS) (this : Nat) (a1 : Int32) : Option (Int32 × zS) := (zgI u0 9 (some this) 16).bind fun v1 => (F_M_in u0 ((a1 : Int32).toInt64) 0 (((v1 - 1) : Int32).toInt64)).bind fun v2 => if v2 = 0 then (some ((-2), u0)) else ((zgI u0 9 (some this) 17).bind fun v3 => (zpI u0 9 (some this) 17 a1).bind fun u4 => some (v3, u4))
set_option maxHeartbeats 4000000 in
set_option maxRecDepth 100000 in
theorem B_M_force (g : zG) (d : Nat) {u0 : zS} {this : Nat} {a1 : Int32} {o : Int32 × zS} (h : F_M_force u0 this a1 = some o) : zMt g zy_M_force (d + 2) 0 0 [zr g (some this), .int a1] u0 (some (.int o.1)) o.2 := by
  refine zMt_of2 (ls := [some (zr g (some this)), some (.int a1), none]) 1 (by decide +kernel) (by simp [lg_sl, zr_cat, zcI, zcJ]) (by simp [zal, zr_cat, zcI, zcJ, List.replicate]) ?_
  revert h
  show zJ g zy_M_force (d + 2) 0 0 zwI o 0 0 0 [some (zr g (some this)), some (.int a1), none] [] u0 (F_M_force u0 this a1)
  unfold F_M_force
  refine zj_iload_n d_M_force_0 rfl ?_
  refine zj_i2l d_M_force_1 ?_
  refine zj_lconst 0 d_M_force_2 (by decide) ?_
  refine zj_aload_n d_M_force_3 rfl ?_
  refine zj_getI fl_M_103 (fun _ _ _ _ => rfl) d_M_force_4 (fun v1 => ?_)
  refine zj_iconst 1 d_M_force_7 (by decide) ?_
  refine zj_isub d_M_force_8 ?_
  refine zj_i2l d_M_force_9 ?_
  refine zj_cSIp [.long ((a1 : Int32).toInt64), .long 0, .long (((v1 - 1) : Int32).toInt64)] zm_S_M_in ml_M_109 (fun _ h => B_M_in g (d) h) (Nat.le_refl _) ⟨Nat.zero_le _, Nat.zero_le _⟩ rfl rfl (by decide) d_M_force_10 (fun v2 => ?_)
  refine zj_if_ne 19 d_M_force_13 rfl (fun _ => ?_) (fun _ => ?_)
  · refine zj_aload_n d_M_force_19 rfl ?_
    refine zj_getI fl_M_253 (fun _ _ _ _ => rfl) d_M_force_20 (fun v3 => ?_)
    refine zj_istore_n [some (zr g (some this)), some (.int a1), some (.int v3)] d_M_force_23 (by decide) rfl rfl ?_
    refine zj_aload_n d_M_force_24 rfl ?_
    refine zj_iload_n d_M_force_25 rfl ?_
    refine zj_putI fl_M_253 (fun _ _ _ _ => rfl) ⟨rfl, rfl⟩ d_M_force_26 (fun u4 => ?_)
    refine zj_iload_n d_M_force_29 rfl ?_
    exact zj_iret rfl rfl rfl rfl d_M_force_30
  refine zj_bipush (-2) d_M_force_16 (by decide) ?_
  exact zj_iret rfl rfl rfl rfl d_M_force_18
def F_M_isDigit (u0 : zS) (a1 : Int32) : Option (Int32) := (F_M_in u0 ((a1 : Int32).toInt64) 48 57).bind fun v1 => zrz v1 v1
set_option maxHeartbeats 4000000 in
set_option maxRecDepth 100000 in
theorem B_M_isDigit (g : zG) (d : Nat) {u0 : zS} {a1 : Int32} {o : Int32} (h : F_M_isDigit u0 a1 = some o) : zMt g zy_M_isDigit (d + 2) 0 0 [.int a1] u0 (some (.int o)) u0 := by
  refine zMt_of2 (ls := [some (.int a1)]) 0 (by decide +kernel) (by simp [lg_sl, zr_cat, zcI, zcJ]) (by simp [zal, zr_cat, zcI, zcJ, List.replicate]) ?_
  revert h
  show zJ g zy_M_isDigit (d + 2) 0 0 (zwIp u0) o 0 0 0 [some (.int a1)] [] u0 (F_M_isDigit u0 a1)
  unfold F_M_isDigit
  refine zj_iload_n d_M_isDigit_0 rfl ?_
  refine zj_i2l d_M_isDigit_1 ?_
  refine zj_ldc2 cl_M_176 d_M_isDigit_2 ?_
  refine zj_ldc2 cl_M_178 d_M_isDigit_5 ?_
  refine zj_cSIp [.long ((a1 : Int32).toInt64), .long 48, .long 57] zm_S_M_in ml_M_109 (fun _ h => B_M_in g (d) h) (Nat.le_refl _) ⟨Nat.zero_le _, Nat.zero_le _⟩ rfl rfl (by decide) d_M_isDigit_8 (fun v1 => ?_)
  exact zj_zret rfl rfl rfl rfl d_M_isDigit_11
def F_M_isLetter (u0 : zS) (a1 : Int32) : Option (Int32) := (F_M_in u0 ((a1 : Int32).toInt64) 97 122).bind fun v1 => zrz v1 v1
set_option maxHeartbeats 4000000 in
set_option maxRecDepth 100000 in
theorem B_M_isLetter (g : zG) (d : Nat) {u0 : zS} {a1 : Int32} {o : Int32} (h : F_M_isLetter u0 a1 = some o) : zMt g zy_M_isLetter (d + 2) 0 0 [.int a1] u0 (some (.int o)) u0 := by
  refine zMt_of2 (ls := [some (.int a1)]) 0 (by decide +kernel) (by simp [lg_sl, zr_cat, zcI, zcJ]) (by simp [zal, zr_cat, zcI, zcJ, List.replicate]) ?_
  revert h
  show zJ g zy_M_isLetter (d + 2) 0 0 (zwIp u0) o 0 0 0 [some (.int a1)] [] u0 (F_M_isLetter u0 a1)
  unfold F_M_isLetter
  refine zj_iload_n d_M_isLetter_0 rfl ?_
  refine zj_i2l d_M_isLetter_1 ?_
  refine zj_ldc2 cl_M_172 d_M_isLetter_2 ?_
  refine zj_ldc2 cl_M_174 d_M_isLetter_5 ?_
  refine zj_cSIp [.long ((a1 : Int32).toInt64), .long 97, .long 122] zm_S_M_in ml_M_109 (fun _ h => B_M_in g (d) h) (Nat.le_refl _) ⟨Nat.zero_le _, Nat.zero_le _⟩ rfl rfl (by decide) d_M_isLetter_8 (fun v1 => ?_)
  exact zj_zret rfl rfl rfl rfl d_M_isLetter_11
def F_M_isPerson (u0 : zS) (this : Nat) (a1 : Int32) : Option (Int32) := (zgI u0 9 (some this) 4).bind fun v1 => (F_M_in u0 ((a1 : Int32).toInt64) 0 (((v1 - 1) : Int32).toInt64)).bind fun v2 => zrz v2 v2
set_option maxHeartbeats 4000000 in
set_option maxRecDepth 100000 in
theorem B_M_isPerson (g : zG) (d : Nat) {u0 : zS} {this : Nat} {a1 : Int32} {o : Int32} (h : F_M_isPerson u0 this a1 = some o) : zMt g zy_M_isPerson (d + 2) 0 0 [zr g (some this), .int a1] u0 (some (.int o)) u0 := by
  refine zMt_of2 (ls := [some (zr g (some this)), some (.int a1)]) 0 (by decide +kernel) (by simp [lg_sl, zr_cat, zcI, zcJ]) (by simp [zal, zr_cat, zcI, zcJ, List.replicate]) ?_
  revert h
  show zJ g zy_M_isPerson (d + 2) 0 0 (zwIp u0) o 0 0 0 [some (zr g (some this)), some (.int a1)] [] u0 (F_M_isPerson u0 this a1)
  unfold F_M_isPerson
  refine zj_iload_n d_M_isPerson_0 rfl ?_
  refine zj_i2l d_M_isPerson_1 ?_
  refine zj_lconst 0 d_M_isPerson_2 (by decide) ?_
  refine zj_aload_n d_M_isPerson_3 rfl ?_
  refine zj_getI fl_M_113 (fun _ _ _ _ => rfl) d_M_isPerson_4 (fun v1 => ?_)
  refine zj_iconst 1 d_M_isPerson_7 (by decide) ?_
  refine zj_isub d_M_isPerson_8 ?_
  refine zj_i2l d_M_isPerson_9 ?_
  refine zj_cSIp [.long ((a1 : Int32).toInt64), .long 0, .long (((v1 - 1) : Int32).toInt64)] zm_S_M_in ml_M_109 (fun _ h => B_M_in g (d) h) (Nat.le_refl _) ⟨Nat.zero_le _, Nat.zero_le _⟩ rfl rfl (by decide) d_M_isPerson_10 (fun v2 => ?_)
  exact zj_zret rfl rfl rfl rfl d_M_isPerson_13
def F_M_isPost (u0 : zS) (this : Nat) (a1 : Int32) : Option (Int32) := (zgI u0 9 (some this) 1).bind fun v1 => (F_M_in u0 ((a1 : Int32).toInt64) 0 (((v1 - 1) : Int32).toInt64)).bind fun v2 => zrz v2 v2
set_option maxHeartbeats 4000000 in
set_option maxRecDepth 100000 in
theorem B_M_isPost (g : zG) (d : Nat) {u0 : zS} {this : Nat} {a1 : Int32} {o : Int32} (h : F_M_isPost u0 this a1 = some o) : zMt g zy_M_isPost (d + 2) 0 0 [zr g (some this), .int a1] u0 (some (.int o)) u0 := by
  refine zMt_of2 (ls := [some (zr g (some this)), some (.int a1)]) 0 (by decide +kernel) (by simp [lg_sl, zr_cat, zcI, zcJ]) (by simp [zal, zr_cat, zcI, zcJ, List.replicate]) ?_
  revert h
  show zJ g zy_M_isPost (d + 2) 0 0 (zwIp u0) o 0 0 0 [some (zr g (some this)), some (.int a1)] [] u0 (F_M_isPost u0 this a1)
  unfold F_M_isPost
  refine zj_iload_n d_M_isPost_0 rfl ?_
  refine zj_i2l d_M_isPost_1 ?_
  refine zj_lconst 0 d_M_isPost_2 (by decide) ?_
  refine zj_aload_n d_M_isPost_3 rfl ?_
  refine zj_getI fl_M_106 (fun _ _ _ _ => rfl) d_M_isPost_4 (fun v1 => ?_)
  refine zj_iconst 1 d_M_isPost_7 (by decide) ?_
  refine zj_isub d_M_isPost_8 ?_
  refine zj_i2l d_M_isPost_9 ?_
  refine zj_cSIp [.long ((a1 : Int32).toInt64), .long 0, .long (((v1 - 1) : Int32).toInt64)] zm_S_M_in ml_M_109 (fun _ h => B_M_in g (d) h) (Nat.le_refl _) ⟨Nat.zero_le _, Nat.zero_le _⟩ rfl rfl (by decide) d_M_isPost_10 (fun v2 => ?_)
  exact zj_zret rfl rfl rfl rfl d_M_isPost_13
def F_M_isSheet (u0 : zS) (a1 : Int32) : Option (Int32) := (F_M_in u0 ((a1 : Int32).toInt64) 0 3).bind fun v1 => zrz v1 v1
set_option maxHeartbeats 4000000 in
set_option maxRecDepth 100000 in
theorem B_M_isSheet (g : zG) (d : Nat) {u0 : zS} {a1 : Int32} {o : Int32} (h : F_M_isSheet u0 a1 = some o) : zMt g zy_M_isSheet (d + 2) 0 0 [.int a1] u0 (some (.int o)) u0 := by
  refine zMt_of2 (ls := [some (.int a1)]) 0 (by decide +kernel) (by simp [lg_sl, zr_cat, zcI, zcJ]) (by simp [zal, zr_cat, zcI, zcJ, List.replicate]) ?_
  revert h
  show zJ g zy_M_isSheet (d + 2) 0 0 (zwIp u0) o 0 0 0 [some (.int a1)] [] u0 (F_M_isSheet u0 a1)
  unfold F_M_isSheet
  refine zj_iload_n d_M_isSheet_0 rfl ?_
  refine zj_i2l d_M_isSheet_1 ?_
  refine zj_lconst 0 d_M_isSheet_2 (by decide) ?_
  refine zj_ldc2 cl_M_354 d_M_isSheet_3 ?_
  refine zj_cSIp [.long ((a1 : Int32).toInt64), .long 0, .long 3] zm_S_M_in ml_M_109 (fun _ h => B_M_in g (d) h) (Nat.le_refl _) ⟨Nat.zero_le _, Nat.zero_le _⟩ rfl rfl (by decide) d_M_isSheet_6 (fun v1 => ?_)
  exact zj_zret rfl rfl rfl rfl d_M_isSheet_9
def F_M_post (u0 : zS) (this : Nat) (a1 : Int32) (a2 : Int32) : Option (Int32 × zS) := (F_M_in u0 ((a1 : Int32).toInt64) 0 1).bind fun v1 => if v1 = 0 then (some ((-2), u0)) else ((F_M_in u0 ((a2 : Int32).toInt64) 0 99).bind fun v2 => if v2 = 0 then (some ((-2), u0)) else ((zgI u0 9 (some this) 1).bind fun v3 => if v3 = 6 then (some ((-4), u0)) else ((zgR u0 9 (some this) 2).bind fun v4 => (zgI u0 9 (some this) 1).bind fun v5 => zjn1 (fun (j7 : Int32 → Option (Int32 × zS)) => if a1 = 1 then (j7 1) else (j7 0)) (fun (x6 : Int32) => (zsZ u0 v4 v5 x6).bind fun u8 => (zgR u8 9 (some this) 3).bind fun v9 => (zgI u8 9 (some this) 1).bind fun v10 => (zsI u8 v9 v10 a2).bind fun u11 => (zgI u11 9 (some this) 1).bind fun v12 => (zpI u11 9 (some this) 1 (v12 + 1)).bind fun u13 => (zgI u13 9 (some this) 1).bind fun v14 => some ((v14 - 1), u13)))))
set_option maxHeartbeats 4000000 in
set_option maxRecDepth 100000 in
theorem B_M_post (g : zG) (d : Nat) {u0 : zS} {this : Nat} {a1 : Int32} {a2 : Int32} {o : Int32 × zS} (h : F_M_post u0 this a1 a2 = some o) : zMt g zy_M_post (d + 2) 0 0 [zr g (some this), .int a1, .int a2] u0 (some (.int o.1)) o.2 := by
  refine zMt_of2 (ls := [some (zr g (some this)), some (.int a1), some (.int a2)]) 0 (by decide +kernel) (by simp [lg_sl, zr_cat, zcI, zcJ]) (by simp [zal, zr_cat, zcI, zcJ, List.replicate]) ?_
  revert h
  show zJ g zy_M_post (d + 2) 0 0 zwI o 0 0 0 [some (zr g (some this)), some (.int a1), some (.int a2)] [] u0 (F_M_post u0 this a1 a2)
  unfold F_M_post
  refine zj_iload_n d_M_post_0 rfl ?_
  refine zj_i2l d_M_post_1 ?_
  refine zj_lconst 0 d_M_post_2 (by decide) ?_
  refine zj_lconst 1 d_M_post_3 (by decide) ?_
  refine zj_cSIp [.long ((a1 : Int32).toInt64), .long 0, .long 1] zm_S_M_in ml_M_109 (fun _ h => B_M_in g (d) h) (Nat.le_refl _) ⟨Nat.zero_le _, Nat.zero_le _⟩ rfl rfl (by decide) d_M_post_4 (fun v1 => ?_)
  refine zj_if_eq 22 d_M_post_7 rfl (fun _ => ?_) (fun _ => ?_)
  · refine zj_bipush (-2) d_M_post_22 (by decide) ?_
    exact zj_iret rfl rfl rfl rfl d_M_post_24
  refine zj_iload_n d_M_post_10 rfl ?_
  refine zj_i2l d_M_post_11 ?_
  refine zj_lconst 0 d_M_post_12 (by decide) ?_
  refine zj_ldc2 cl_M_116 d_M_post_13 ?_
  refine zj_cSIp [.long ((a2 : Int32).toInt64), .long 0, .long 99] zm_S_M_in ml_M_109 (fun _ h => B_M_in g (d) h) (Nat.le_refl _) ⟨Nat.zero_le _, Nat.zero_le _⟩ rfl rfl (by decide) d_M_post_16 (fun v2 => ?_)
  refine zj_if_ne 25 d_M_post_19 rfl (fun _ => ?_) (fun _ => ?_)
  · refine zj_aload_n d_M_post_25 rfl ?_
    refine zj_getI fl_M_106 (fun _ _ _ _ => rfl) d_M_post_26 (fun v3 => ?_)
    refine zj_bipush 6 d_M_post_29 (by decide) ?_
    refine zj_icmp_ne 37 d_M_post_31 rfl (fun _ => ?_) (fun _ => ?_)
    · refine zj_aload_n d_M_post_37 rfl ?_
      refine zj_getR fl_M_13 (fun _ _ _ _ => rfl) d_M_post_38 (fun v4 => ?_)
      refine zj_aload_n d_M_post_41 rfl ?_
      refine zj_getI fl_M_106 (fun _ _ _ _ => rfl) d_M_post_42 (fun v5 => ?_)
      refine zj_iload_n d_M_post_45 rfl ?_
      refine zj_iconst 1 d_M_post_46 (by decide) ?_
      refine zj_jn1 (pcj := 55) (fun x6 => [some (zr g (some this)), none, some (.int a2)]) (fun x6 => [.int x6, .int v5, zr g v4]) (fun x6 => u0) (fun x6 => ?_) (fun j7 hj7 => ?_)
      · refine zj_zastore d_M_post_55 (fun u8 => ?_)
        refine zj_aload_n d_M_post_56 rfl ?_
        refine zj_getR fl_M_17 (fun _ _ _ _ => rfl) d_M_post_57 (fun v9 => ?_)
        refine zj_aload_n d_M_post_60 rfl ?_
        refine zj_getI fl_M_106 (fun _ _ _ _ => rfl) d_M_post_61 (fun v10 => ?_)
        refine zj_iload_n d_M_post_64 rfl ?_
        refine zj_iastore d_M_post_65 (fun u11 => ?_)
        refine zj_aload_n d_M_post_66 rfl ?_
        refine zj_dup d_M_post_67 (zr_cat _ _) ?_
        refine zj_getI fl_M_106 (fun _ _ _ _ => rfl) d_M_post_68 (fun v12 => ?_)
        refine zj_iconst 1 d_M_post_71 (by decide) ?_
        refine zj_iadd d_M_post_72 ?_
        refine zj_putI fl_M_106 (fun _ _ _ _ => rfl) ⟨rfl, rfl⟩ d_M_post_73 (fun u13 => ?_)
        refine zj_aload_n d_M_post_76 rfl ?_
        refine zj_getI fl_M_106 (fun _ _ _ _ => rfl) d_M_post_77 (fun v14 => ?_)
        refine zj_iconst 1 d_M_post_80 (by decide) ?_
        refine zj_isub d_M_post_81 ?_
        exact zj_iret rfl rfl rfl rfl d_M_post_82
      refine zj_icmp_ne 54 d_M_post_47 rfl (fun _ => ?_) (fun _ => ?_)
      · refine zj_iconst 0 d_M_post_54 (by decide) ?_
        refine zj_cut [some (zr g (some this)), none, some (.int a2)] ⟨rfl, ⟨rfl, trivial⟩⟩ ?_
        exact hj7 0
      refine zj_iconst 1 d_M_post_50 (by decide) ?_
      refine zj_goto 55 d_M_post_51 rfl ?_
      refine zj_cut [some (zr g (some this)), none, some (.int a2)] ⟨rfl, ⟨rfl, trivial⟩⟩ ?_
      exact hj7 1
    refine zj_bipush (-4) d_M_post_34 (by decide) ?_
    exact zj_iret rfl rfl rfl rfl d_M_post_36
  refine zj_bipush (-2) d_M_post_22 (by decide) ?_
  exact zj_iret rfl rfl rfl rfl d_M_post_24
def F_M_says (u0 : zS) (this : Nat) (a1 : Int32) (a2 : Int32) (a3 : Int32) : Option (Int32 × zS) := (zgR u0 9 (some this) 31).bind fun v1 => (zgR u0 9 (some this) 6).bind fun v2 => (zaI u0 .int v2 a2).bind fun v3 => zjn1 (fun (j5 : Int32 → Option (Int32 × zS)) => if v3 = a3 then (j5 1) else (j5 0)) (fun (x4 : Int32) => (zsI u0 v1 0 x4).bind fun u6 => (zgR u6 9 (some this) 31).bind fun v7 => (zgR u6 9 (some this) 7).bind fun v8 => (zaI u6 .int v8 a2).bind fun v9 => (zsI u6 v7 1 v9).bind fun u10 => (zgR u10 9 (some this) 31).bind fun v11 => (zob u10 9 (some this)).bind fun q13 => (F_M_yearsOf u10 q13 a2 a3).bind fun v12 => (zsI u10 v11 2 v12).bind fun u14 => (zgR u14 9 (some this) 31).bind fun v15 => (zgR u14 9 (some this) 2).bind fun v16 => (zaI u14 .boolean v16 a3).bind fun v17 => zjn1 (fun (j19 : Int32 → Option (Int32 × zS)) => if v17 = 0 then (j19 0) else (j19 1)) (fun (x18 : Int32) => (zsI u14 v15 3 x18).bind fun u20 => (zgR u20 9 (some this) 31).bind fun v21 => (zgR u20 9 (some this) 3).bind fun v22 => (zaI u20 .int v22 a3).bind fun v23 => (zsI u20 v21 4 v23).bind fun u24 => (zgR u24 9 (some this) 31).bind fun v25 => (zob u24 9 (some this)).bind fun q27 => (F_M_taughtMany u24 q27 a2).bind fun v26 => (zsI u24 v25 5 v26).bind fun u28 => (zgR u28 9 (some this) 19).bind fun v29 => (zgI u28 9 (some this) 17).bind fun v30 => (zaI u28 .int v29 (((3 : Int32) * v30) + a1)).bind fun v31 => zfix3 (fun (r32 : zS → Int32 → Int32 → Option (Int32 × zS)) (u33 : zS) (x34 : Int32) (x35 : Int32) => (zgR u33 9 (some this) 20).bind fun v36 => (zgI u33 9 (some this) 17).bind fun v37 => (zaI u33 .int v36 (((3 : Int32) * v37) + a1)).bind fun v38 => if v38 ≤ x35 then ((zgR u33 9 (some this) 30).bind fun v39 => (zaI u33 .int v39 0).bind fun v40 => some (v40, u33)) else ((zgR u33 9 (some this) 18).bind fun v41 => (zaI u33 .int v41 x35).bind fun v42 => if v42 ≤ (-100) then (if v42 = (-100) then ((zgR u33 9 (some this) 30).bind fun v55 => (zgR u33 9 (some this) 30).bind fun v56 => (zaI u33 .int v56 (x34 - 1)).bind fun v57 => (zsI u33 v55 (x34 - 1) (-v57)).bind fun u58 => r32 u58 x34 (x35 + 1)) else (if v42 = (-101) then ((zgR u33 9 (some this) 30).bind fun v50 => (zgR u33 9 (some this) 30).bind fun v51 => (zaI u33 .int v51 (x34 - 1)).bind fun v52 => if v52 = 0 then ((zsI u33 v50 (x34 - 1) 1).bind fun u54 => r32 u54 x34 (x35 + 1)) else ((zsI u33 v50 (x34 - 1) 0).bind fun u53 => r32 u53 x34 (x35 + 1))) else ((zgR u33 9 (some this) 30).bind fun v43 => (zgR u33 9 (some this) 30).bind fun v44 => (zaI u33 .int v44 ((x34 + (-1)) - 1)).bind fun v45 => (zgR u33 9 (some this) 30).bind fun v46 => (zaI u33 .int v46 (x34 + (-1))).bind fun v47 => (F_M_reckon u33 ((-100 : Int32) - v42) v45 v47).bind fun v48 => (zsI u33 v43 ((x34 + (-1)) - 1) v48).bind fun u49 => r32 u49 (x34 + (-1)) (x35 + 1)))) else ((zgR u33 9 (some this) 30).bind fun v59 => if 0 ≤ v42 then ((zsI u33 v59 x34 v42).bind fun u60 => r32 u60 (x34 + 1) (x35 + 1)) else ((zgR u33 9 (some this) 31).bind fun v61 => (zaI u33 .int v61 ((-1 : Int32) - v42)).bind fun v62 => (zsI u33 v59 x34 v62).bind fun u63 => r32 u63 (x34 + 1) (x35 + 1))))) zFU u28 0 v31))
set_option maxHeartbeats 4000000 in
set_option maxRecDepth 100000 in
theorem B_M_says (g : zG) (d : Nat) {u0 : zS} {this : Nat} {a1 : Int32} {a2 : Int32} {a3 : Int32} {o : Int32 × zS} (h : F_M_says u0 this a1 a2 a3 = some o) : zMt g zy_M_says (d + 2) 0 0 [zr g (some this), .int a1, .int a2, .int a3] u0 (some (.int o.1)) o.2 := by
  refine zMt_of2 (ls := [some (zr g (some this)), some (.int a1), some (.int a2), some (.int a3), none, none, none]) 3 (by decide +kernel) (by simp [lg_sl, zr_cat, zcI, zcJ]) (by simp [zal, zr_cat, zcI, zcJ, List.replicate]) ?_
  revert h
  show zJ g zy_M_says (d + 2) 0 0 zwI o 0 0 0 [some (zr g (some this)), some (.int a1), some (.int a2), some (.int a3), none, none, none] [] u0 (F_M_says u0 this a1 a2 a3)
  unfold F_M_says
  refine zj_aload_n d_M_says_0 rfl ?_
  refine zj_getR fl_M_64 (fun _ _ _ _ => rfl) d_M_says_1 (fun v1 => ?_)
  refine zj_iconst 0 d_M_says_4 (by decide) ?_
  refine zj_aload_n d_M_says_5 rfl ?_
  refine zj_getR fl_M_24 (fun _ _ _ _ => rfl) d_M_says_6 (fun v2 => ?_)
  refine zj_iload_n d_M_says_9 rfl ?_
  refine zj_iaload d_M_says_10 (fun v3 => ?_)
  refine zj_iload_n d_M_says_11 rfl ?_
  refine zj_jn1 (pcj := 20) (fun x4 => [some (zr g (some this)), some (.int a1), some (.int a2), some (.int a3), none, none, none]) (fun x4 => [.int x4, .int 0, zr g v1]) (fun x4 => u0) (fun x4 => ?_) (fun j5 hj5 => ?_)
  · refine zj_iastore d_M_says_20 (fun u6 => ?_)
    refine zj_aload_n d_M_says_21 rfl ?_
    refine zj_getR fl_M_64 (fun _ _ _ _ => rfl) d_M_says_22 (fun v7 => ?_)
    refine zj_iconst 1 d_M_says_25 (by decide) ?_
    refine zj_aload_n d_M_says_26 rfl ?_
    refine zj_getR fl_M_27 (fun _ _ _ _ => rfl) d_M_says_27 (fun v8 => ?_)
    refine zj_iload_n d_M_says_30 rfl ?_
    refine zj_iaload d_M_says_31 (fun v9 => ?_)
    refine zj_iastore d_M_says_32 (fun u10 => ?_)
    refine zj_aload_n d_M_says_33 rfl ?_
    refine zj_getR fl_M_64 (fun _ _ _ _ => rfl) d_M_says_34 (fun v11 => ?_)
    refine zj_iconst 2 d_M_says_37 (by decide) ?_
    refine zj_aload_n d_M_says_38 rfl ?_
    refine zj_iload_n d_M_says_39 rfl ?_
    refine zj_iload_n d_M_says_40 rfl ?_
    refine zj_cVIp (ci := 9) (T := zT9) (N := 53) [.int a2, .int a3] zm_V_M_yearsOf ml_M_140 rfl (fun _ _ h => B_M_yearsOf g (d) h) (Nat.le_refl _) ⟨Nat.zero_le _, Nat.zero_le _⟩ rfl rfl (by simp [zr_cat, zcI, zcJ]) d_M_says_41 (fun v12 => ?_)
    refine zj_iastore d_M_says_44 (fun u14 => ?_)
    refine zj_aload_n d_M_says_45 rfl ?_
    refine zj_getR fl_M_64 (fun _ _ _ _ => rfl) d_M_says_46 (fun v15 => ?_)
    refine zj_iconst 3 d_M_says_49 (by decide) ?_
    refine zj_aload_n d_M_says_50 rfl ?_
    refine zj_getR fl_M_13 (fun _ _ _ _ => rfl) d_M_says_51 (fun v16 => ?_)
    refine zj_iload_n d_M_says_54 rfl ?_
    refine zj_zaload d_M_says_55 (fun v17 => ?_)
    refine zj_jn1 (pcj := 64) (fun x18 => [some (zr g (some this)), some (.int a1), some (.int a2), some (.int a3), none, none, none]) (fun x18 => [.int x18, .int 3, zr g v15]) (fun x18 => u14) (fun x18 => ?_) (fun j19 hj19 => ?_)
    · refine zj_iastore d_M_says_64 (fun u20 => ?_)
      refine zj_aload_n d_M_says_65 rfl ?_
      refine zj_getR fl_M_64 (fun _ _ _ _ => rfl) d_M_says_66 (fun v21 => ?_)
      refine zj_iconst 4 d_M_says_69 (by decide) ?_
      refine zj_aload_n d_M_says_70 rfl ?_
      refine zj_getR fl_M_17 (fun _ _ _ _ => rfl) d_M_says_71 (fun v22 => ?_)
      refine zj_iload_n d_M_says_74 rfl ?_
      refine zj_iaload d_M_says_75 (fun v23 => ?_)
      refine zj_iastore d_M_says_76 (fun u24 => ?_)
      refine zj_aload_n d_M_says_77 rfl ?_
      refine zj_getR fl_M_64 (fun _ _ _ _ => rfl) d_M_says_78 (fun v25 => ?_)
      refine zj_iconst 5 d_M_says_81 (by decide) ?_
      refine zj_aload_n d_M_says_82 rfl ?_
      refine zj_iload_n d_M_says_83 rfl ?_
      refine zj_cVIp (ci := 9) (T := zT9) (N := 53) [.int a2] zm_V_M_taughtMany ml_M_136 rfl (fun _ _ h => B_M_taughtMany g (d) h) (Nat.le_refl _) ⟨Nat.zero_le _, Nat.zero_le _⟩ rfl rfl (by simp [zr_cat, zcI, zcJ]) d_M_says_84 (fun v26 => ?_)
      refine zj_iastore d_M_says_87 (fun u28 => ?_)
      refine zj_iconst 0 d_M_says_88 (by decide) ?_
      refine zj_istore [some (zr g (some this)), some (.int a1), some (.int a2), some (.int a3), some (.int 0), none, none] d_M_says_89 (by decide) rfl rfl ?_
      refine zj_aload_n d_M_says_91 rfl ?_
      refine zj_getR fl_M_51 (fun _ _ _ _ => rfl) d_M_says_92 (fun v29 => ?_)
      refine zj_iconst 3 d_M_says_95 (by decide) ?_
      refine zj_aload_n d_M_says_96 rfl ?_
      refine zj_getI fl_M_253 (fun _ _ _ _ => rfl) d_M_says_97 (fun v30 => ?_)
      refine zj_imul d_M_says_100 ?_
      refine zj_iload_n d_M_says_101 rfl ?_
      refine zj_iadd d_M_says_102 ?_
      refine zj_iaload d_M_says_103 (fun v31 => ?_)
      refine zj_istore [some (zr g (some this)), some (.int a1), some (.int a2), some (.int a3), some (.int 0), some (.int v31), none] d_M_says_104 (by decide) rfl rfl ?_
      refine zj_cut [some (zr g (some this)), some (.int a1), none, none, some (.int 0), some (.int v31), none] ⟨rfl, ⟨rfl, ⟨rfl, ⟨rfl, trivial⟩⟩⟩⟩ ?_
      refine zj_fix3 (fun u33 x34 x35 => [some (zr g (some this)), some (.int a1), none, none, some (.int x34), some (.int x35), none]) (fun u33 x34 x35 => u33) (fun r32 hr32 u33 x34 x35 => ?_) u28 0 v31
      refine zj_iload d_M_says_106 rfl ?_
      refine zj_aload_n d_M_says_108 rfl ?_
      refine zj_getR fl_M_54 (fun _ _ _ _ => rfl) d_M_says_109 (fun v36 => ?_)
      refine zj_iconst 3 d_M_says_112 (by decide) ?_
      refine zj_aload_n d_M_says_113 rfl ?_
      refine zj_getI fl_M_253 (fun _ _ _ _ => rfl) d_M_says_114 (fun v37 => ?_)
      refine zj_imul d_M_says_117 ?_
      refine zj_iload_n d_M_says_118 rfl ?_
      refine zj_iadd d_M_says_119 ?_
      refine zj_iaload d_M_says_120 (fun v38 => ?_)
      refine zj_icmp_ge 279 d_M_says_121 rfl (fun _ => ?_) (fun _ => ?_)
      · refine zj_aload_n d_M_says_279 rfl ?_
        refine zj_getR fl_M_61 (fun _ _ _ _ => rfl) d_M_says_280 (fun v39 => ?_)
        refine zj_iconst 0 d_M_says_283 (by decide) ?_
        refine zj_iaload d_M_says_284 (fun v40 => ?_)
        exact zj_iret rfl rfl rfl rfl d_M_says_285
      refine zj_aload_n d_M_says_124 rfl ?_
      refine zj_getR fl_M_48 (fun _ _ _ _ => rfl) d_M_says_125 (fun v41 => ?_)
      refine zj_iload d_M_says_128 rfl ?_
      refine zj_iaload d_M_says_130 (fun v42 => ?_)
      refine zj_istore [some (zr g (some this)), some (.int a1), none, none, some (.int x34), some (.int x35), some (.int v42)] d_M_says_131 (by decide) rfl rfl ?_
      refine zj_iload d_M_says_133 rfl ?_
      refine zj_bipush (-100) d_M_says_135 (by decide) ?_
      refine zj_icmp_le 172 d_M_says_137 rfl (fun _ => ?_) (fun _ => ?_)
      · refine zj_iload d_M_says_172 rfl ?_
        refine zj_bipush (-100) d_M_says_174 (by decide) ?_
        refine zj_icmp_ne 201 d_M_says_176 rfl (fun _ => ?_) (fun _ => ?_)
        · refine zj_iload d_M_says_201 rfl ?_
          refine zj_bipush (-101) d_M_says_203 (by decide) ?_
          refine zj_icmp_ne 237 d_M_says_205 rfl (fun _ => ?_) (fun _ => ?_)
          · refine zj_iinc (v := (x34 + (-1))) [some (zr g (some this)), some (.int a1), none, none, some (.int (x34 + (-1))), some (.int x35), some (.int v42)] d_M_says_237 rfl rfl (by decide) rfl rfl ?_
            refine zj_aload_n d_M_says_240 rfl ?_
            refine zj_getR fl_M_61 (fun _ _ _ _ => rfl) d_M_says_241 (fun v43 => ?_)
            refine zj_iload d_M_says_244 rfl ?_
            refine zj_iconst 1 d_M_says_246 (by decide) ?_
            refine zj_isub d_M_says_247 ?_
            refine zj_bipush (-100) d_M_says_248 (by decide) ?_
            refine zj_iload d_M_says_250 rfl ?_
            refine zj_isub d_M_says_252 ?_
            refine zj_aload_n d_M_says_253 rfl ?_
            refine zj_getR fl_M_61 (fun _ _ _ _ => rfl) d_M_says_254 (fun v44 => ?_)
            refine zj_iload d_M_says_257 rfl ?_
            refine zj_iconst 1 d_M_says_259 (by decide) ?_
            refine zj_isub d_M_says_260 ?_
            refine zj_iaload d_M_says_261 (fun v45 => ?_)
            refine zj_aload_n d_M_says_262 rfl ?_
            refine zj_getR fl_M_61 (fun _ _ _ _ => rfl) d_M_says_263 (fun v46 => ?_)
            refine zj_iload d_M_says_266 rfl ?_
            refine zj_iaload d_M_says_268 (fun v47 => ?_)
            refine zj_cSIp [.int ((-100 : Int32) - v42), .int v45, .int v47] zm_S_M_reckon ml_M_256 (fun _ h => B_M_reckon g (d) h) (Nat.le_refl _) ⟨Nat.zero_le _, Nat.zero_le _⟩ rfl rfl (by simp [zr_cat, zcI, zcJ]) d_M_says_269 (fun v48 => ?_)
            refine zj_iastore d_M_says_272 (fun u49 => ?_)
            refine zj_iinc (v := (x35 + 1)) [some (zr g (some this)), some (.int a1), none, none, some (.int (x34 + (-1))), some (.int (x35 + 1)), some (.int v42)] d_M_says_273 rfl rfl (by decide) rfl rfl ?_
            refine zj_goto 106 d_M_says_276 rfl ?_
            refine zj_cut [some (zr g (some this)), some (.int a1), none, none, some (.int (x34 + (-1))), some (.int (x35 + 1)), none] ⟨rfl, ⟨rfl, ⟨rfl, ⟨rfl, trivial⟩⟩⟩⟩ ?_
            exact hr32 u49 (x34 + (-1)) (x35 + 1)
          refine zj_aload_n d_M_says_208 rfl ?_
          refine zj_getR fl_M_61 (fun _ _ _ _ => rfl) d_M_says_209 (fun v50 => ?_)
          refine zj_iload d_M_says_212 rfl ?_
          refine zj_iconst 1 d_M_says_214 (by decide) ?_
          refine zj_isub d_M_says_215 ?_
          refine zj_aload_n d_M_says_216 rfl ?_
          refine zj_getR fl_M_61 (fun _ _ _ _ => rfl) d_M_says_217 (fun v51 => ?_)
          refine zj_iload d_M_says_220 rfl ?_
          refine zj_iconst 1 d_M_says_222 (by decide) ?_
          refine zj_isub d_M_says_223 ?_
          refine zj_iaload d_M_says_224 (fun v52 => ?_)
          refine zj_if_ne 232 d_M_says_225 rfl (fun _ => ?_) (fun _ => ?_)
          · refine zj_iconst 0 d_M_says_232 (by decide) ?_
            refine zj_iastore d_M_says_233 (fun u53 => ?_)
            refine zj_goto 273 d_M_says_234 rfl ?_
            refine zj_iinc (v := (x35 + 1)) [some (zr g (some this)), some (.int a1), none, none, some (.int x34), some (.int (x35 + 1)), some (.int v42)] d_M_says_273 rfl rfl (by decide) rfl rfl ?_
            refine zj_goto 106 d_M_says_276 rfl ?_
            refine zj_cut [some (zr g (some this)), some (.int a1), none, none, some (.int x34), some (.int (x35 + 1)), none] ⟨rfl, ⟨rfl, ⟨rfl, ⟨rfl, trivial⟩⟩⟩⟩ ?_
            exact hr32 u53 x34 (x35 + 1)
          refine zj_iconst 1 d_M_says_228 (by decide) ?_
          refine zj_goto 233 d_M_says_229 rfl ?_
          refine zj_iastore d_M_says_233 (fun u54 => ?_)
          refine zj_goto 273 d_M_says_234 rfl ?_
          refine zj_iinc (v := (x35 + 1)) [some (zr g (some this)), some (.int a1), none, none, some (.int x34), some (.int (x35 + 1)), some (.int v42)] d_M_says_273 rfl rfl (by decide) rfl rfl ?_
          refine zj_goto 106 d_M_says_276 rfl ?_
          refine zj_cut [some (zr g (some this)), some (.int a1), none, none, some (.int x34), some (.int (x35 + 1)), none] ⟨rfl, ⟨rfl, ⟨rfl, ⟨rfl, trivial⟩⟩⟩⟩ ?_
          exact hr32 u54 x34 (x35 + 1)
        refine zj_aload_n d_M_says_179 rfl ?_
        refine zj_getR fl_M_61 (fun _ _ _ _ => rfl) d_M_says_180 (fun v55 => ?_)
        refine zj_iload d_M_says_183 rfl ?_
        refine zj_iconst 1 d_M_says_185 (by decide) ?_
        refine zj_isub d_M_says_186 ?_
        refine zj_aload_n d_M_says_187 rfl ?_
        refine zj_getR fl_M_61 (fun _ _ _ _ => rfl) d_M_says_188 (fun v56 => ?_)
        refine zj_iload d_M_says_191 rfl ?_
        refine zj_iconst 1 d_M_says_193 (by decide) ?_
        refine zj_isub d_M_says_194 ?_
        refine zj_iaload d_M_says_195 (fun v57 => ?_)
        refine zj_ineg d_M_says_196 ?_
        refine zj_iastore d_M_says_197 (fun u58 => ?_)
        refine zj_goto 273 d_M_says_198 rfl ?_
        refine zj_iinc (v := (x35 + 1)) [some (zr g (some this)), some (.int a1), none, none, some (.int x34), some (.int (x35 + 1)), some (.int v42)] d_M_says_273 rfl rfl (by decide) rfl rfl ?_
        refine zj_goto 106 d_M_says_276 rfl ?_
        refine zj_cut [some (zr g (some this)), some (.int a1), none, none, some (.int x34), some (.int (x35 + 1)), none] ⟨rfl, ⟨rfl, ⟨rfl, ⟨rfl, trivial⟩⟩⟩⟩ ?_
        exact hr32 u58 x34 (x35 + 1)
      refine zj_aload_n d_M_says_140 rfl ?_
      refine zj_getR fl_M_61 (fun _ _ _ _ => rfl) d_M_says_141 (fun v59 => ?_)
      refine zj_iload d_M_says_144 rfl ?_
      refine zj_iload d_M_says_146 rfl ?_
      refine zj_if_ge 163 d_M_says_148 rfl (fun _ => ?_) (fun _ => ?_)
      · refine zj_iload d_M_says_163 rfl ?_
        refine zj_iastore d_M_says_165 (fun u60 => ?_)
        refine zj_iinc (v := (x34 + 1)) [some (zr g (some this)), some (.int a1), none, none, some (.int (x34 + 1)), some (.int x35), some (.int v42)] d_M_says_166 rfl rfl (by decide) rfl rfl ?_
        refine zj_goto 273 d_M_says_169 rfl ?_
        refine zj_iinc (v := (x35 + 1)) [some (zr g (some this)), some (.int a1), none, none, some (.int (x34 + 1)), some (.int (x35 + 1)), some (.int v42)] d_M_says_273 rfl rfl (by decide) rfl rfl ?_
        refine zj_goto 106 d_M_says_276 rfl ?_
        refine zj_cut [some (zr g (some this)), some (.int a1), none, none, some (.int (x34 + 1)), some (.int (x35 + 1)), none] ⟨rfl, ⟨rfl, ⟨rfl, ⟨rfl, trivial⟩⟩⟩⟩ ?_
        exact hr32 u60 (x34 + 1) (x35 + 1)
      refine zj_aload_n d_M_says_151 rfl ?_
      refine zj_getR fl_M_64 (fun _ _ _ _ => rfl) d_M_says_152 (fun v61 => ?_)
      refine zj_iconst (-1) d_M_says_155 (by decide) ?_
      refine zj_iload d_M_says_156 rfl ?_
      refine zj_isub d_M_says_158 ?_
      refine zj_iaload d_M_says_159 (fun v62 => ?_)
      refine zj_goto 165 d_M_says_160 rfl ?_
      refine zj_iastore d_M_says_165 (fun u63 => ?_)
      refine zj_iinc (v := (x34 + 1)) [some (zr g (some this)), some (.int a1), none, none, some (.int (x34 + 1)), some (.int x35), some (.int v42)] d_M_says_166 rfl rfl (by decide) rfl rfl ?_
      refine zj_goto 273 d_M_says_169 rfl ?_
      refine zj_iinc (v := (x35 + 1)) [some (zr g (some this)), some (.int a1), none, none, some (.int (x34 + 1)), some (.int (x35 + 1)), some (.int v42)] d_M_says_273 rfl rfl (by decide) rfl rfl ?_
      refine zj_goto 106 d_M_says_276 rfl ?_
      refine zj_cut [some (zr g (some this)), some (.int a1), none, none, some (.int (x34 + 1)), some (.int (x35 + 1)), none] ⟨rfl, ⟨rfl, ⟨rfl, ⟨rfl, trivial⟩⟩⟩⟩ ?_
      exact hr32 u63 (x34 + 1) (x35 + 1)
    refine zj_if_eq 63 d_M_says_56 rfl (fun _ => ?_) (fun _ => ?_)
    · refine zj_iconst 0 d_M_says_63 (by decide) ?_
      exact hj19 0
    refine zj_iconst 1 d_M_says_59 (by decide) ?_
    refine zj_goto 64 d_M_says_60 rfl ?_
    exact hj19 1
  refine zj_icmp_ne 19 d_M_says_12 rfl (fun _ => ?_) (fun _ => ?_)
  · refine zj_iconst 0 d_M_says_19 (by decide) ?_
    exact hj5 0
  refine zj_iconst 1 d_M_says_15 (by decide) ?_
  refine zj_goto 20 d_M_says_16 rfl ?_
  exact hj5 1
def F_M_years (u0 : zS) (this : Nat) (a1 : Int32) : Option (Int32 × zS) := (F_M_in u0 ((a1 : Int32).toInt64) 1 9).bind fun v1 => if v1 = 0 then (some ((-2), u0)) else ((zgI u0 9 (some this) 10).bind fun v2 => if (v2 + a1) ≤ 99 then ((zgI u0 9 (some this) 10).bind fun v3 => (zpI u0 9 (some this) 10 (v3 + a1)).bind fun u4 => (zgI u4 9 (some this) 10).bind fun v5 => some (v5, u4)) else (some ((-4), u0)))
set_option maxHeartbeats 4000000 in
set_option maxRecDepth 100000 in
theorem B_M_years (g : zG) (d : Nat) {u0 : zS} {this : Nat} {a1 : Int32} {o : Int32 × zS} (h : F_M_years u0 this a1 = some o) : zMt g zy_M_years (d + 2) 0 0 [zr g (some this), .int a1] u0 (some (.int o.1)) o.2 := by
  refine zMt_of2 (ls := [some (zr g (some this)), some (.int a1)]) 0 (by decide +kernel) (by simp [lg_sl, zr_cat, zcI, zcJ]) (by simp [zal, zr_cat, zcI, zcJ, List.replicate]) ?_
  revert h
  show zJ g zy_M_years (d + 2) 0 0 zwI o 0 0 0 [some (zr g (some this)), some (.int a1)] [] u0 (F_M_years u0 this a1)
  unfold F_M_years
  refine zj_iload_n d_M_years_0 rfl ?_
  refine zj_i2l d_M_years_1 ?_
  refine zj_lconst 1 d_M_years_2 (by decide) ?_
  refine zj_ldc2 cl_M_128 d_M_years_3 ?_
  refine zj_cSIp [.long ((a1 : Int32).toInt64), .long 1, .long 9] zm_S_M_in ml_M_109 (fun _ h => B_M_in g (d) h) (Nat.le_refl _) ⟨Nat.zero_le _, Nat.zero_le _⟩ rfl rfl (by decide) d_M_years_6 (fun v1 => ?_)
  refine zj_if_ne 15 d_M_years_9 rfl (fun _ => ?_) (fun _ => ?_)
  · refine zj_aload_n d_M_years_15 rfl ?_
    refine zj_getI fl_M_130 (fun _ _ _ _ => rfl) d_M_years_16 (fun v2 => ?_)
    refine zj_iload_n d_M_years_19 rfl ?_
    refine zj_iadd d_M_years_20 ?_
    refine zj_bipush 99 d_M_years_21 (by decide) ?_
    refine zj_icmp_le 29 d_M_years_23 rfl (fun _ => ?_) (fun _ => ?_)
    · refine zj_aload_n d_M_years_29 rfl ?_
      refine zj_dup d_M_years_30 (zr_cat _ _) ?_
      refine zj_getI fl_M_130 (fun _ _ _ _ => rfl) d_M_years_31 (fun v3 => ?_)
      refine zj_iload_n d_M_years_34 rfl ?_
      refine zj_iadd d_M_years_35 ?_
      refine zj_putI fl_M_130 (fun _ _ _ _ => rfl) ⟨rfl, rfl⟩ d_M_years_36 (fun u4 => ?_)
      refine zj_aload_n d_M_years_39 rfl ?_
      refine zj_getI fl_M_130 (fun _ _ _ _ => rfl) d_M_years_40 (fun v5 => ?_)
      exact zj_iret rfl rfl rfl rfl d_M_years_43
    refine zj_bipush (-4) d_M_years_26 (by decide) ?_
    exact zj_iret rfl rfl rfl rfl d_M_years_28
  refine zj_bipush (-2) d_M_years_12 (by decide) ?_
  exact zj_iret rfl rfl rfl rfl d_M_years_14
def F_X_back (u0 : zS) (this : Nat) : Option (Int32 × zS) := (zgI u0 8 (some this) 12).bind fun v1 => if v1 = 0 then (some ((-3), u0)) else (zfix2 (fun (r2 : zS → Int32 → Option (Int32 × zS)) (u3 : zS) (x4 : Int32) => (zgI u3 8 (some this) 15).bind fun v5 => if v5 ≤ x4 then ((zgR u3 8 (some this) 0).bind fun v6 => (zgI u3 8 (some this) 13).bind fun v7 => (zpI u3 2 v6 3 v7).bind fun u8 => (zgI u8 8 (some this) 14).bind fun v9 => (zpI u8 8 (some this) 6 v9).bind fun u10 => (zgR u10 8 (some this) 0).bind fun v11 => (zgI u10 2 v11 3).bind fun v12 => some (v12, u10)) else ((zgR u3 8 (some this) 1).bind fun v13 => (zaR u3 "PostsFilled$Person" v13 x4).bind fun v14 => (zob u3 3 v14).bind fun q17 => (F_Person_restore u3 q17 ).bind fun u16 => r2 u16 (x4 + 1))) zFU u0 0)
set_option maxHeartbeats 4000000 in
set_option maxRecDepth 100000 in
theorem B_X_back (g : zG) (d : Nat) {u0 : zS} {this : Nat} {o : Int32 × zS} (h : F_X_back u0 this = some o) : zMt g zy_X_back (d + 3) 0 0 [zr g (some this)] u0 (some (.int o.1)) o.2 := by
  refine zMt_of2 (ls := [some (zr g (some this)), none]) 1 (by decide +kernel) (by simp [lg_sl, zr_cat, zcI, zcJ]) (by simp [zal, zr_cat, zcI, zcJ, List.replicate]) ?_
  revert h
  show zJ g zy_X_back (d + 3) 0 0 zwI o 0 0 0 [some (zr g (some this)), none] [] u0 (F_X_back u0 this)
  unfold F_X_back
  refine zj_aload_n d_X_back_0 rfl ?_
  refine zj_getI fl_X_69 (fun _ _ _ _ => rfl) d_X_back_1 (fun v1 => ?_)
  refine zj_if_ne 10 d_X_back_4 rfl (fun _ => ?_) (fun _ => ?_)
  · refine zj_iconst 0 d_X_back_10 (by decide) ?_
    refine zj_istore_n [some (zr g (some this)), some (.int 0)] d_X_back_11 (by decide) rfl rfl ?_
    refine zj_fix2 (fun u3 x4 => [some (zr g (some this)), some (.int x4)]) (fun u3 x4 => u3) (fun r2 hr2 u3 x4 => ?_) u0 0
    refine zj_iload_n d_X_back_12 rfl ?_
    refine zj_aload_n d_X_back_13 rfl ?_
    refine zj_getI fl_X_79 (fun _ _ _ _ => rfl) d_X_back_14 (fun v5 => ?_)
    refine zj_icmp_ge 35 d_X_back_17 rfl (fun _ => ?_) (fun _ => ?_)
    · refine zj_aload_n d_X_back_35 rfl ?_
      refine zj_getR fl_X_10 (fun _ _ _ _ => rfl) d_X_back_36 (fun v6 => ?_)
      refine zj_aload_n d_X_back_39 rfl ?_
      refine zj_getI fl_X_73 (fun _ _ _ _ => rfl) d_X_back_40 (fun v7 => ?_)
      refine zj_putI fl_X_126 (fun _ _ _ _ => rfl) ⟨rfl, rfl⟩ d_X_back_43 (fun u8 => ?_)
      refine zj_aload_n d_X_back_46 rfl ?_
      refine zj_aload_n d_X_back_47 rfl ?_
      refine zj_getI fl_X_76 (fun _ _ _ _ => rfl) d_X_back_48 (fun v9 => ?_)
      refine zj_putI fl_X_35 (fun _ _ _ _ => rfl) ⟨rfl, rfl⟩ d_X_back_51 (fun u10 => ?_)
      refine zj_aload_n d_X_back_54 rfl ?_
      refine zj_getR fl_X_10 (fun _ _ _ _ => rfl) d_X_back_55 (fun v11 => ?_)
      refine zj_getI fl_X_126 (fun _ _ _ _ => rfl) d_X_back_58 (fun v12 => ?_)
      exact zj_iret rfl rfl rfl rfl d_X_back_61
    refine zj_aload_n d_X_back_20 rfl ?_
    refine zj_getR fl_X_18 (fun _ _ _ _ => rfl) d_X_back_21 (fun v13 => ?_)
    refine zj_iload_n d_X_back_24 rfl ?_
    refine zj_aaload 4 rfl d_X_back_25 (fun v14 => ?_)
    refine zj_cVU (ci := 3) (T := zT3) (N := 10) [] zm_V_Person_restore ml_X_295 rfl (fun _ _ h => B_Person_restore g (d) h) (Nat.le_refl _) ⟨Nat.zero_le _, Nat.zero_le _⟩ rfl rfl (by decide) d_X_back_26 (fun u16 => ?_)
    refine zj_iinc (v := (x4 + 1)) [some (zr g (some this)), some (.int (x4 + 1))] d_X_back_29 rfl rfl (by decide) rfl rfl ?_
    refine zj_goto 12 d_X_back_32 rfl ?_
    exact hr2 u16 (x4 + 1)
  refine zj_bipush (-3) d_X_back_7 (by decide) ?_
  exact zj_iret rfl rfl rfl rfl d_X_back_9
def F_X_cell (u0 : zS) (this : Nat) (a1 : Int32) (a2 : Int32) (a3 : Int32) : Option (Int32 × zS) := (F_X_isSheet u0 a1).bind fun v1 => if v1 = 0 then (some ((-2), u0)) else ((zgR u0 8 (some this) 11).bind fun v2 => (zaR u0 "PostsFilled$Sheet" v2 a1).bind fun v3 => (zob u0 6 v3).bind fun q5 => (F_Sheet_isMissing u0 q5 ).bind fun v4 => if v4 = 0 then ((zob u0 6 v3).bind fun q7 => (F_Sheet_has u0 q7 a2).bind fun v6 => if v6 = 0 then (some ((-12), u0)) else ((zob u0 6 v3).bind fun q10 => (F_Sheet_put u0 q10 a2 a3).bind fun u9 => some (1, u9))) else (some ((-11), u0)))
set_option maxHeartbeats 4000000 in
set_option maxRecDepth 100000 in
theorem B_X_cell (g : zG) (d : Nat) {u0 : zS} {this : Nat} {a1 : Int32} {a2 : Int32} {a3 : Int32} {o : Int32 × zS} (h : F_X_cell u0 this a1 a2 a3 = some o) : zMt g zy_X_cell (d + 3) 0 0 [zr g (some this), .int a1, .int a2, .int a3] u0 (some (.int o.1)) o.2 := by
  refine zMt_of2 (ls := [some (zr g (some this)), some (.int a1), some (.int a2), some (.int a3), none]) 1 (by decide +kernel) (by simp [lg_sl, zr_cat, zcI, zcJ]) (by simp [zal, zr_cat, zcI, zcJ, List.replicate]) ?_
  revert h
  show zJ g zy_X_cell (d + 3) 0 0 zwI o 0 0 0 [some (zr g (some this)), some (.int a1), some (.int a2), some (.int a3), none] [] u0 (F_X_cell u0 this a1 a2 a3)
  unfold F_X_cell
  refine zj_iload_n d_X_cell_0 rfl ?_
  refine zj_cSIp [.int a1] zm_S_X_isSheet ml_X_277 (fun _ h => B_X_isSheet g (d + 1) h) (Nat.le_refl _) ⟨Nat.zero_le _, Nat.zero_le _⟩ rfl rfl (by decide) d_X_cell_1 (fun v1 => ?_)
  refine zj_if_ne 10 d_X_cell_4 rfl (fun _ => ?_) (fun _ => ?_)
  · refine zj_aload_n d_X_cell_10 rfl ?_
    refine zj_getR fl_X_65 (fun _ _ _ _ => rfl) d_X_cell_11 (fun v2 => ?_)
    refine zj_iload_n d_X_cell_14 rfl ?_
    refine zj_aaload 6 rfl d_X_cell_15 (fun v3 => ?_)
    refine zj_astore [some (zr g (some this)), some (.int a1), some (.int a2), some (.int a3), some (zr g v3)] d_X_cell_16 (by decide) rfl rfl ?_
    refine zj_aload d_X_cell_18 rfl ?_
    refine zj_cVIp (ci := 6) (T := zT6) (N := 3) [] zm_V_Sheet_isMissing ml_X_280 rfl (fun _ _ h => B_Sheet_isMissing g (d + 1) h) (Nat.le_refl _) ⟨Nat.zero_le _, Nat.zero_le _⟩ rfl rfl (by decide) d_X_cell_20 (fun v4 => ?_)
    refine zj_if_eq 29 d_X_cell_23 rfl (fun _ => ?_) (fun _ => ?_)
    · refine zj_aload d_X_cell_29 rfl ?_
      refine zj_iload_n d_X_cell_31 rfl ?_
      refine zj_cVIp (ci := 6) (T := zT6) (N := 3) [.int a2] zm_V_Sheet_has ml_X_312 rfl (fun _ _ h => B_Sheet_has g (d + 1) h) (Nat.le_refl _) ⟨Nat.zero_le _, Nat.zero_le _⟩ rfl rfl (by decide) d_X_cell_32 (fun v6 => ?_)
      refine zj_if_ne 41 d_X_cell_35 rfl (fun _ => ?_) (fun _ => ?_)
      · refine zj_aload d_X_cell_41 rfl ?_
        refine zj_iload_n d_X_cell_43 rfl ?_
        refine zj_iload_n d_X_cell_44 rfl ?_
        refine zj_cVU (ci := 6) (T := zT6) (N := 3) [.int a2, .int a3] zm_V_Sheet_put ml_X_313 rfl (fun _ _ h => B_Sheet_put g (d) h) (Nat.le_refl _) ⟨Nat.zero_le _, Nat.zero_le _⟩ rfl rfl (by decide) d_X_cell_45 (fun u9 => ?_)
        refine zj_iconst 1 d_X_cell_48 (by decide) ?_
        exact zj_iret rfl rfl rfl rfl d_X_cell_49
      refine zj_bipush (-12) d_X_cell_38 (by decide) ?_
      exact zj_iret rfl rfl rfl rfl d_X_cell_40
    refine zj_bipush (-11) d_X_cell_26 (by decide) ?_
    exact zj_iret rfl rfl rfl rfl d_X_cell_28
  refine zj_bipush (-2) d_X_cell_7 (by decide) ?_
  exact zj_iret rfl rfl rfl rfl d_X_cell_9
