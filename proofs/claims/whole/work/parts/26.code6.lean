def F_X_count (u0 : zS) (this : Nat) (a1 : Int32) : Option (Int32) := if a1 = 0 then ((zgR u0 8 (some this) 0).bind fun v2 => (zgI u0 2 v2 0).bind fun v3 => some v3) else if a1 = 1 then ((zgI u0 8 (some this) 2).bind fun v5 => some v5) else if a1 = 2 then ((zgR u0 8 (some this) 0).bind fun v7 => (zgI u0 2 v7 3).bind fun v8 => some v8) else if a1 = 3 then ((zgI u0 8 (some this) 5).bind fun v10 => some v10) else if a1 = 4 then ((zgR u0 8 (some this) 3).bind fun v12 => (zgI u0 5 v12 0).bind fun v13 => some v13) else if a1 = 5 then ((zgI u0 8 (some this) 6).bind fun v15 => some v15) else if a1 = 6 then ((zgR u0 8 (some this) 0).bind fun v17 => (zgI u0 2 v17 1).bind fun v18 => (F_Integer_bitCount u0 v18).bind fun v19 => some v19) else if a1 = 7 then ((zob u0 8 (some this)).bind fun q22 => (F_X_lessonsOfAll u0 q22 ).bind fun v21 => some v21) else (some (-2))
set_option maxHeartbeats 4000000 in
set_option maxRecDepth 100000 in
theorem B_X_count (g : zG) (d : Nat) {u0 : zS} {this : Nat} {a1 : Int32} {o : Int32} (h : F_X_count u0 this a1 = some o) : zMt g zy_X_count (d + 3) 0 0 [zr g (some this), .int a1] u0 (some (.int o)) u0 := by
  refine zMt_of2 (ls := [some (zr g (some this)), some (.int a1)]) 0 (by decide +kernel) (by simp [lg_sl, zr_cat, zcI, zcJ]) (by simp [zal, zr_cat, zcI, zcJ, List.replicate]) ?_
  revert h
  show zJ g zy_X_count (d + 3) 0 0 (zwIp u0) o 0 0 0 [some (zr g (some this)), some (.int a1)] [] u0 (F_X_count u0 this a1)
  unfold F_X_count
  refine zj_iload_n d_X_count_0 rfl ?_
  refine zj_tsw 0 (0) 48 d_X_count_1 (by decide) (by decide) (by decide) rfl rfl (fun _ => ?_) (fun h1 => ?_)
  · refine zj_aload_n d_X_count_48 rfl ?_
    refine zj_getR fl_X_10 (fun _ _ _ _ => rfl) d_X_count_49 (fun v2 => ?_)
    refine zj_getI fl_X_254 (fun _ _ _ _ => rfl) d_X_count_52 (fun v3 => ?_)
    exact zj_iret rfl rfl rfl rfl d_X_count_55
  refine zj_tsw 1 (1) 56 d_X_count_1 (by decide) (by decide) (by decide) rfl rfl (fun _ => ?_) (fun h4 => ?_)
  · refine zj_aload_n d_X_count_56 rfl ?_
    refine zj_getI fl_X_22 (fun _ _ _ _ => rfl) d_X_count_57 (fun v5 => ?_)
    exact zj_iret rfl rfl rfl rfl d_X_count_60
  refine zj_tsw 2 (2) 61 d_X_count_1 (by decide) (by decide) (by decide) rfl rfl (fun _ => ?_) (fun h6 => ?_)
  · refine zj_aload_n d_X_count_61 rfl ?_
    refine zj_getR fl_X_10 (fun _ _ _ _ => rfl) d_X_count_62 (fun v7 => ?_)
    refine zj_getI fl_X_126 (fun _ _ _ _ => rfl) d_X_count_65 (fun v8 => ?_)
    exact zj_iret rfl rfl rfl rfl d_X_count_68
  refine zj_tsw 3 (3) 69 d_X_count_1 (by decide) (by decide) (by decide) rfl rfl (fun _ => ?_) (fun h9 => ?_)
  · refine zj_aload_n d_X_count_69 rfl ?_
    refine zj_getI fl_X_32 (fun _ _ _ _ => rfl) d_X_count_70 (fun v10 => ?_)
    exact zj_iret rfl rfl rfl rfl d_X_count_73
  refine zj_tsw 4 (4) 74 d_X_count_1 (by decide) (by decide) (by decide) rfl rfl (fun _ => ?_) (fun h11 => ?_)
  · refine zj_aload_n d_X_count_74 rfl ?_
    refine zj_getR fl_X_90 (fun _ _ _ _ => rfl) d_X_count_75 (fun v12 => ?_)
    refine zj_getI fl_X_181 (fun _ _ _ _ => rfl) d_X_count_78 (fun v13 => ?_)
    exact zj_iret rfl rfl rfl rfl d_X_count_81
  refine zj_tsw 5 (5) 82 d_X_count_1 (by decide) (by decide) (by decide) rfl rfl (fun _ => ?_) (fun h14 => ?_)
  · refine zj_aload_n d_X_count_82 rfl ?_
    refine zj_getI fl_X_35 (fun _ _ _ _ => rfl) d_X_count_83 (fun v15 => ?_)
    exact zj_iret rfl rfl rfl rfl d_X_count_86
  refine zj_tsw 6 (6) 87 d_X_count_1 (by decide) (by decide) (by decide) rfl rfl (fun _ => ?_) (fun h16 => ?_)
  · refine zj_aload_n d_X_count_87 rfl ?_
    refine zj_getR fl_X_10 (fun _ _ _ _ => rfl) d_X_count_88 (fun v17 => ?_)
    refine zj_getI fl_X_298 (fun _ _ _ _ => rfl) d_X_count_91 (fun v18 => ?_)
    refine zj_cSIp [.int v18] zm_S_Integer_bitCount ml_X_301 (fun _ h => B_Integer_bitCount g (d + 1) h) (Nat.le_refl _) ⟨Nat.zero_le _, Nat.zero_le _⟩ rfl rfl (by decide) d_X_count_94 (fun v19 => ?_)
    exact zj_iret rfl rfl rfl rfl d_X_count_97
  refine zj_tsw 7 (7) 98 d_X_count_1 (by decide) (by decide) (by decide) rfl rfl (fun _ => ?_) (fun h20 => ?_)
  · refine zj_aload_n d_X_count_98 rfl ?_
    refine zj_cVIp (ci := 8) (T := zT8) (N := 16) [] zm_V_X_lessonsOfAll ml_X_306 rfl (fun _ _ h => B_X_lessonsOfAll g (d) h) (Nat.le_refl _) ⟨Nat.zero_le _, Nat.zero_le _⟩ rfl rfl (by decide) d_X_count_99 (fun v21 => ?_)
    exact zj_iret rfl rfl rfl rfl d_X_count_102
  refine zj_tswD 103 d_X_count_1 (by have e0 := lv_neT h1 (show (0 : Int32).toInt = 0 by decide); have e1 := lv_neT h4 (show (1 : Int32).toInt = 1 by decide); have e2 := lv_neT h6 (show (2 : Int32).toInt = 2 by decide); have e3 := lv_neT h9 (show (3 : Int32).toInt = 3 by decide); have e4 := lv_neT h11 (show (4 : Int32).toInt = 4 by decide); have e5 := lv_neT h14 (show (5 : Int32).toInt = 5 by decide); have e6 := lv_neT h16 (show (6 : Int32).toInt = 6 by decide); have e7 := lv_neT h20 (show (7 : Int32).toInt = 7 by decide); omega) rfl ?_
  refine zj_bipush (-2) d_X_count_103 (by decide) ?_
  exact zj_iret rfl rfl rfl rfl d_X_count_105
def F_X_image (u0 : zS) (this : Nat) : Option (Int32 × zS) := zfix2 (fun (r1 : zS → Int32 → Option (Int32 × zS)) (u2 : zS) (x3 : Int32) => (zgI u2 8 (some this) 2).bind fun v4 => if v4 ≤ x3 then ((zpZ u2 8 (some this) 12 1).bind fun u5 => (zgR u5 8 (some this) 0).bind fun v6 => (zgI u5 2 v6 3).bind fun v7 => (zpI u5 8 (some this) 13 v7).bind fun u8 => (zgI u8 8 (some this) 6).bind fun v9 => (zpI u8 8 (some this) 14 v9).bind fun u10 => (zgI u10 8 (some this) 2).bind fun v11 => (zpI u10 8 (some this) 15 v11).bind fun u12 => (zgR u12 8 (some this) 0).bind fun v13 => (zgI u12 2 v13 3).bind fun v14 => some (v14, u12)) else ((zgR u2 8 (some this) 1).bind fun v15 => (zaR u2 "PostsFilled$Person" v15 x3).bind fun v16 => (zob u2 3 v16).bind fun q19 => (F_Person_save u2 q19 ).bind fun u18 => r1 u18 (x3 + 1))) zFU u0 0
set_option maxHeartbeats 4000000 in
set_option maxRecDepth 100000 in
theorem B_X_image (g : zG) (d : Nat) {u0 : zS} {this : Nat} {o : Int32 × zS} (h : F_X_image u0 this = some o) : zMt g zy_X_image (d + 3) 0 0 [zr g (some this)] u0 (some (.int o.1)) o.2 := by
  refine zMt_of2 (ls := [some (zr g (some this)), none]) 1 (by decide +kernel) (by simp [lg_sl, zr_cat, zcI, zcJ]) (by simp [zal, zr_cat, zcI, zcJ, List.replicate]) ?_
  revert h
  show zJ g zy_X_image (d + 3) 0 0 zwI o 0 0 0 [some (zr g (some this)), none] [] u0 (F_X_image u0 this)
  unfold F_X_image
  refine zj_iconst 0 d_X_image_0 (by decide) ?_
  refine zj_istore_n [some (zr g (some this)), some (.int 0)] d_X_image_1 (by decide) rfl rfl ?_
  refine zj_fix2 (fun u2 x3 => [some (zr g (some this)), some (.int x3)]) (fun u2 x3 => u2) (fun r1 hr1 u2 x3 => ?_) u0 0
  refine zj_iload_n d_X_image_2 rfl ?_
  refine zj_aload_n d_X_image_3 rfl ?_
  refine zj_getI fl_X_22 (fun _ _ _ _ => rfl) d_X_image_4 (fun v4 => ?_)
  refine zj_icmp_ge 25 d_X_image_7 rfl (fun _ => ?_) (fun _ => ?_)
  · refine zj_aload_n d_X_image_25 rfl ?_
    refine zj_iconst 1 d_X_image_26 (by decide) ?_
    refine zj_putZ fl_X_69 d_X_image_27 (fun u5 => ?_)
    refine zj_aload_n d_X_image_30 rfl ?_
    refine zj_aload_n d_X_image_31 rfl ?_
    refine zj_getR fl_X_10 (fun _ _ _ _ => rfl) d_X_image_32 (fun v6 => ?_)
    refine zj_getI fl_X_126 (fun _ _ _ _ => rfl) d_X_image_35 (fun v7 => ?_)
    refine zj_putI fl_X_73 (fun _ _ _ _ => rfl) ⟨rfl, rfl⟩ d_X_image_38 (fun u8 => ?_)
    refine zj_aload_n d_X_image_41 rfl ?_
    refine zj_aload_n d_X_image_42 rfl ?_
    refine zj_getI fl_X_35 (fun _ _ _ _ => rfl) d_X_image_43 (fun v9 => ?_)
    refine zj_putI fl_X_76 (fun _ _ _ _ => rfl) ⟨rfl, rfl⟩ d_X_image_46 (fun u10 => ?_)
    refine zj_aload_n d_X_image_49 rfl ?_
    refine zj_aload_n d_X_image_50 rfl ?_
    refine zj_getI fl_X_22 (fun _ _ _ _ => rfl) d_X_image_51 (fun v11 => ?_)
    refine zj_putI fl_X_79 (fun _ _ _ _ => rfl) ⟨rfl, rfl⟩ d_X_image_54 (fun u12 => ?_)
    refine zj_aload_n d_X_image_57 rfl ?_
    refine zj_getR fl_X_10 (fun _ _ _ _ => rfl) d_X_image_58 (fun v13 => ?_)
    refine zj_getI fl_X_126 (fun _ _ _ _ => rfl) d_X_image_61 (fun v14 => ?_)
    exact zj_iret rfl rfl rfl rfl d_X_image_64
  refine zj_aload_n d_X_image_10 rfl ?_
  refine zj_getR fl_X_18 (fun _ _ _ _ => rfl) d_X_image_11 (fun v15 => ?_)
  refine zj_iload_n d_X_image_14 rfl ?_
  refine zj_aaload 4 rfl d_X_image_15 (fun v16 => ?_)
  refine zj_cVU (ci := 3) (T := zT3) (N := 10) [] zm_V_Person_save ml_X_292 rfl (fun _ _ h => B_Person_save g (d) h) (Nat.le_refl _) ⟨Nat.zero_le _, Nat.zero_le _⟩ rfl rfl (by decide) d_X_image_16 (fun u18 => ?_)
  refine zj_iinc (v := (x3 + 1)) [some (zr g (some this)), some (.int (x3 + 1))] d_X_image_19 rfl rfl (by decide) rfl rfl ?_
  refine zj_goto 2 d_X_image_22 rfl ?_
  exact hr1 u18 (x3 + 1)
def F_X_people (u0 : zS) (this : Nat) (a1 : Int32) (a2 : Int32) (a3 : Int32) (a4 : Int32) : Option (Int32 × zS) := (F_X_isSheet u0 a1).bind fun v1 => if v1 = 0 then (some ((-2), u0)) else (if a2 < 0 then (some ((-2), u0)) else (if 2 < a2 then (some ((-2), u0)) else (if a4 < 0 then (some ((-2), u0)) else (if a4 ≤ 8 then ((zgR u0 8 (some this) 11).bind fun v2 => (zaR u0 "PostsFilled$Sheet" v2 a1).bind fun v3 => (zob u0 6 v3).bind fun q5 => (F_Sheet_isMissing u0 q5 ).bind fun v4 => if v4 = 0 then ((zgI u0 6 v3 0).bind fun v22 => if v22 = a2 then ((zob u0 6 v3).bind fun q24 => (F_Sheet_isMissing u0 q24 ).bind fun v23 => if v23 = 0 then (zfix4 (fun (r25 : zS → Int32 → Int32 → Int32 → Option (Int32 × zS)) (u26 : zS) (x27 : Int32) (x28 : Int32) (x29 : Int32) => if a4 ≤ x29 then (some (x27, u26)) else ((zob u26 6 v3).bind fun q31 => (F_Sheet_hasRun u26 q31 x28 2).bind fun v30 => if v30 = 0 then (some ((-12), u26)) else ((zgR u26 6 v3 2).bind fun v32 => (zaI u26 .int v32 x28).bind fun v33 => (zgR u26 6 v3 2).bind fun v34 => (zaI u26 .int v34 (x28 + 1)).bind fun v35 => (zob u26 8 (some this)).bind fun q38 => (F_X_hire u26 q38 v33 v35).bind <| zk fun v36 u37 => if v36 < 0 then (r25 u37 x27 (x28 + 2) (x29 + 1)) else (r25 u37 (x27 + 1) (x28 + 2) (x29 + 1))))) zFU u0 0 a3 0) else (some ((-11), u0))) else (some ((-13), u0))) else ((zob u0 6 v3).bind fun q7 => (F_Sheet_isMissing u0 q7 ).bind fun v6 => if v6 = 0 then (zfix4 (fun (r8 : zS → Int32 → Int32 → Int32 → Option (Int32 × zS)) (u9 : zS) (x10 : Int32) (x11 : Int32) (x12 : Int32) => if a4 ≤ x12 then (some (x10, u9)) else ((zob u9 6 v3).bind fun q14 => (F_Sheet_hasRun u9 q14 x11 2).bind fun v13 => if v13 = 0 then (some ((-12), u9)) else ((zgR u9 6 v3 2).bind fun v15 => (zaI u9 .int v15 x11).bind fun v16 => (zgR u9 6 v3 2).bind fun v17 => (zaI u9 .int v17 (x11 + 1)).bind fun v18 => (zob u9 8 (some this)).bind fun q21 => (F_X_hire u9 q21 v16 v18).bind <| zk fun v19 u20 => if v19 < 0 then (r8 u20 x10 (x11 + 2) (x12 + 1)) else (r8 u20 (x10 + 1) (x11 + 2) (x12 + 1))))) zFU u0 0 a3 0) else (some ((-11), u0)))) else (some ((-2), u0))))))
set_option maxHeartbeats 4000000 in
set_option maxRecDepth 100000 in
theorem B_X_people (g : zG) (d : Nat) {u0 : zS} {this : Nat} {a1 : Int32} {a2 : Int32} {a3 : Int32} {a4 : Int32} {o : Int32 × zS} (h : F_X_people u0 this a1 a2 a3 a4 = some o) : zMt g zy_X_people (d + 3) 0 0 [zr g (some this), .int a1, .int a2, .int a3, .int a4] u0 (some (.int o.1)) o.2 := by
  refine zMt_of2 (ls := [some (zr g (some this)), some (.int a1), some (.int a2), some (.int a3), some (.int a4), none, none, none, none]) 4 (by decide +kernel) (by simp [lg_sl, zr_cat, zcI, zcJ]) (by simp [zal, zr_cat, zcI, zcJ, List.replicate]) ?_
  revert h
  show zJ g zy_X_people (d + 3) 0 0 zwI o 0 0 0 [some (zr g (some this)), some (.int a1), some (.int a2), some (.int a3), some (.int a4), none, none, none, none] [] u0 (F_X_people u0 this a1 a2 a3 a4)
  unfold F_X_people
  refine zj_iload_n d_X_people_0 rfl ?_
  refine zj_cSIp [.int a1] zm_S_X_isSheet ml_X_277 (fun _ h => B_X_isSheet g (d + 1) h) (Nat.le_refl _) ⟨Nat.zero_le _, Nat.zero_le _⟩ rfl rfl (by decide) d_X_people_1 (fun v1 => ?_)
  refine zj_if_eq 28 d_X_people_4 rfl (fun _ => ?_) (fun _ => ?_)
  · refine zj_bipush (-2) d_X_people_28 (by decide) ?_
    exact zj_iret rfl rfl rfl rfl d_X_people_30
  refine zj_iload_n d_X_people_7 rfl ?_
  refine zj_if_lt 28 d_X_people_8 rfl (fun _ => ?_) (fun _ => ?_)
  · refine zj_bipush (-2) d_X_people_28 (by decide) ?_
    exact zj_iret rfl rfl rfl rfl d_X_people_30
  refine zj_iload_n d_X_people_11 rfl ?_
  refine zj_iconst 2 d_X_people_12 (by decide) ?_
  refine zj_icmp_gt 28 d_X_people_13 rfl (fun _ => ?_) (fun _ => ?_)
  · refine zj_bipush (-2) d_X_people_28 (by decide) ?_
    exact zj_iret rfl rfl rfl rfl d_X_people_30
  refine zj_iload d_X_people_16 rfl ?_
  refine zj_if_lt 28 d_X_people_18 rfl (fun _ => ?_) (fun _ => ?_)
  · refine zj_bipush (-2) d_X_people_28 (by decide) ?_
    exact zj_iret rfl rfl rfl rfl d_X_people_30
  refine zj_iload d_X_people_21 rfl ?_
  refine zj_bipush 8 d_X_people_23 (by decide) ?_
  refine zj_icmp_le 31 d_X_people_25 rfl (fun _ => ?_) (fun _ => ?_)
  · refine zj_aload_n d_X_people_31 rfl ?_
    refine zj_getR fl_X_65 (fun _ _ _ _ => rfl) d_X_people_32 (fun v2 => ?_)
    refine zj_iload_n d_X_people_35 rfl ?_
    refine zj_aaload 6 rfl d_X_people_36 (fun v3 => ?_)
    refine zj_astore [some (zr g (some this)), some (.int a1), some (.int a2), some (.int a3), some (.int a4), some (zr g v3), none, none, none] d_X_people_37 (by decide) rfl rfl ?_
    refine zj_aload d_X_people_39 rfl ?_
    refine zj_cVIp (ci := 6) (T := zT6) (N := 3) [] zm_V_Sheet_isMissing ml_X_280 rfl (fun _ _ h => B_Sheet_isMissing g (d + 1) h) (Nat.le_refl _) ⟨Nat.zero_le _, Nat.zero_le _⟩ rfl rfl (by decide) d_X_people_41 (fun v4 => ?_)
    refine zj_if_ne 59 d_X_people_44 rfl (fun _ => ?_) (fun _ => ?_)
    · refine zj_aload d_X_people_59 rfl ?_
      refine zj_cVIp (ci := 6) (T := zT6) (N := 3) [] zm_V_Sheet_isMissing ml_X_280 rfl (fun _ _ h => B_Sheet_isMissing g (d + 1) h) (Nat.le_refl _) ⟨Nat.zero_le _, Nat.zero_le _⟩ rfl rfl (by decide) d_X_people_61 (fun v6 => ?_)
      refine zj_if_eq 70 d_X_people_64 rfl (fun _ => ?_) (fun _ => ?_)
      · refine zj_iconst 0 d_X_people_70 (by decide) ?_
        refine zj_istore [some (zr g (some this)), some (.int a1), some (.int a2), some (.int a3), some (.int a4), some (zr g v3), some (.int 0), none, none] d_X_people_71 (by decide) (by simp [zNL, zr_cat]) rfl ?_
        refine zj_iload_n d_X_people_73 rfl ?_
        refine zj_istore [some (zr g (some this)), some (.int a1), some (.int a2), some (.int a3), some (.int a4), some (zr g v3), some (.int 0), some (.int a3), none] d_X_people_74 (by decide) rfl rfl ?_
        refine zj_iconst 0 d_X_people_76 (by decide) ?_
        refine zj_istore [some (zr g (some this)), some (.int a1), some (.int a2), some (.int a3), some (.int a4), some (zr g v3), some (.int 0), some (.int a3), some (.int 0)] d_X_people_77 (by decide) rfl rfl ?_
        refine zj_cut [some (zr g (some this)), none, none, none, some (.int a4), some (zr g v3), some (.int 0), some (.int a3), some (.int 0)] ⟨rfl, ⟨rfl, ⟨rfl, ⟨rfl, ⟨rfl, ⟨rfl, trivial⟩⟩⟩⟩⟩⟩ ?_
        refine zj_fix4 (fun u9 x10 x11 x12 => [some (zr g (some this)), none, none, none, some (.int a4), some (zr g v3), some (.int x10), some (.int x11), some (.int x12)]) (fun u9 x10 x11 x12 => u9) (fun r8 hr8 u9 x10 x11 x12 => ?_) u0 0 a3 0
        refine zj_iload d_X_people_79 rfl ?_
        refine zj_iload d_X_people_81 rfl ?_
        refine zj_icmp_ge 137 d_X_people_83 rfl (fun _ => ?_) (fun _ => ?_)
        · refine zj_iload d_X_people_137 rfl ?_
          exact zj_iret rfl rfl rfl rfl d_X_people_139
        refine zj_aload d_X_people_86 rfl ?_
        refine zj_iload d_X_people_88 rfl ?_
        refine zj_iconst 2 d_X_people_90 (by decide) ?_
        refine zj_cVIp (ci := 6) (T := zT6) (N := 3) [.int x11, .int 2] zm_V_Sheet_hasRun ml_X_319 rfl (fun _ _ h => B_Sheet_hasRun g (d + 1) h) (Nat.le_refl _) ⟨Nat.zero_le _, Nat.zero_le _⟩ rfl rfl (by decide) d_X_people_91 (fun v13 => ?_)
        refine zj_if_ne 100 d_X_people_94 rfl (fun _ => ?_) (fun _ => ?_)
        · refine zj_aload_n d_X_people_100 rfl ?_
          refine zj_aload d_X_people_101 rfl ?_
          refine zj_getR fl_X_285 (fun _ _ _ _ => rfl) d_X_people_103 (fun v15 => ?_)
          refine zj_iload d_X_people_106 rfl ?_
          refine zj_iaload d_X_people_108 (fun v16 => ?_)
          refine zj_aload d_X_people_109 rfl ?_
          refine zj_getR fl_X_285 (fun _ _ _ _ => rfl) d_X_people_111 (fun v17 => ?_)
          refine zj_iload d_X_people_114 rfl ?_
          refine zj_iconst 1 d_X_people_116 (by decide) ?_
          refine zj_iadd d_X_people_117 ?_
          refine zj_iaload d_X_people_118 (fun v18 => ?_)
          refine zj_cVI (ci := 8) (T := zT8) (N := 16) [.int v16, .int v18] zm_V_X_hire ml_X_122 rfl (fun _ _ h => B_X_hire g (d) h) (Nat.le_refl _) ⟨Nat.zero_le _, Nat.zero_le _⟩ rfl rfl (by decide) d_X_people_119 (fun v19 u20 => ?_)
          refine zj_if_lt 128 d_X_people_122 rfl (fun _ => ?_) (fun _ => ?_)
          · refine zj_iinc (v := (x11 + 2)) [some (zr g (some this)), none, none, none, some (.int a4), some (zr g v3), some (.int x10), some (.int (x11 + 2)), some (.int x12)] d_X_people_128 rfl rfl (by decide) rfl rfl ?_
            refine zj_iinc (v := (x12 + 1)) [some (zr g (some this)), none, none, none, some (.int a4), some (zr g v3), some (.int x10), some (.int (x11 + 2)), some (.int (x12 + 1))] d_X_people_131 rfl rfl (by decide) rfl rfl ?_
            refine zj_goto 79 d_X_people_134 rfl ?_
            exact hr8 u20 x10 (x11 + 2) (x12 + 1)
          refine zj_iinc (v := (x10 + 1)) [some (zr g (some this)), none, none, none, some (.int a4), some (zr g v3), some (.int (x10 + 1)), some (.int x11), some (.int x12)] d_X_people_125 rfl rfl (by decide) (by simp [zNL, zr_cat]) rfl ?_
          refine zj_iinc (v := (x11 + 2)) [some (zr g (some this)), none, none, none, some (.int a4), some (zr g v3), some (.int (x10 + 1)), some (.int (x11 + 2)), some (.int x12)] d_X_people_128 rfl rfl (by decide) rfl rfl ?_
          refine zj_iinc (v := (x12 + 1)) [some (zr g (some this)), none, none, none, some (.int a4), some (zr g v3), some (.int (x10 + 1)), some (.int (x11 + 2)), some (.int (x12 + 1))] d_X_people_131 rfl rfl (by decide) rfl rfl ?_
          refine zj_goto 79 d_X_people_134 rfl ?_
          exact hr8 u20 (x10 + 1) (x11 + 2) (x12 + 1)
        refine zj_bipush (-12) d_X_people_97 (by decide) ?_
        exact zj_iret rfl rfl rfl rfl d_X_people_99
      refine zj_bipush (-11) d_X_people_67 (by decide) ?_
      exact zj_iret rfl rfl rfl rfl d_X_people_69
    refine zj_aload d_X_people_47 rfl ?_
    refine zj_getI fl_X_316 (fun _ _ _ _ => rfl) d_X_people_49 (fun v22 => ?_)
    refine zj_iload_n d_X_people_52 rfl ?_
    refine zj_icmp_eq 59 d_X_people_53 rfl (fun _ => ?_) (fun _ => ?_)
    · refine zj_aload d_X_people_59 rfl ?_
      refine zj_cVIp (ci := 6) (T := zT6) (N := 3) [] zm_V_Sheet_isMissing ml_X_280 rfl (fun _ _ h => B_Sheet_isMissing g (d + 1) h) (Nat.le_refl _) ⟨Nat.zero_le _, Nat.zero_le _⟩ rfl rfl (by decide) d_X_people_61 (fun v23 => ?_)
      refine zj_if_eq 70 d_X_people_64 rfl (fun _ => ?_) (fun _ => ?_)
      · refine zj_iconst 0 d_X_people_70 (by decide) ?_
        refine zj_istore [some (zr g (some this)), some (.int a1), some (.int a2), some (.int a3), some (.int a4), some (zr g v3), some (.int 0), none, none] d_X_people_71 (by decide) (by simp [zNL, zr_cat]) rfl ?_
        refine zj_iload_n d_X_people_73 rfl ?_
        refine zj_istore [some (zr g (some this)), some (.int a1), some (.int a2), some (.int a3), some (.int a4), some (zr g v3), some (.int 0), some (.int a3), none] d_X_people_74 (by decide) rfl rfl ?_
        refine zj_iconst 0 d_X_people_76 (by decide) ?_
        refine zj_istore [some (zr g (some this)), some (.int a1), some (.int a2), some (.int a3), some (.int a4), some (zr g v3), some (.int 0), some (.int a3), some (.int 0)] d_X_people_77 (by decide) rfl rfl ?_
        refine zj_cut [some (zr g (some this)), none, none, none, some (.int a4), some (zr g v3), some (.int 0), some (.int a3), some (.int 0)] ⟨rfl, ⟨rfl, ⟨rfl, ⟨rfl, ⟨rfl, ⟨rfl, trivial⟩⟩⟩⟩⟩⟩ ?_
        refine zj_fix4 (fun u26 x27 x28 x29 => [some (zr g (some this)), none, none, none, some (.int a4), some (zr g v3), some (.int x27), some (.int x28), some (.int x29)]) (fun u26 x27 x28 x29 => u26) (fun r25 hr25 u26 x27 x28 x29 => ?_) u0 0 a3 0
        refine zj_iload d_X_people_79 rfl ?_
        refine zj_iload d_X_people_81 rfl ?_
        refine zj_icmp_ge 137 d_X_people_83 rfl (fun _ => ?_) (fun _ => ?_)
        · refine zj_iload d_X_people_137 rfl ?_
          exact zj_iret rfl rfl rfl rfl d_X_people_139
        refine zj_aload d_X_people_86 rfl ?_
        refine zj_iload d_X_people_88 rfl ?_
        refine zj_iconst 2 d_X_people_90 (by decide) ?_
        refine zj_cVIp (ci := 6) (T := zT6) (N := 3) [.int x28, .int 2] zm_V_Sheet_hasRun ml_X_319 rfl (fun _ _ h => B_Sheet_hasRun g (d + 1) h) (Nat.le_refl _) ⟨Nat.zero_le _, Nat.zero_le _⟩ rfl rfl (by decide) d_X_people_91 (fun v30 => ?_)
        refine zj_if_ne 100 d_X_people_94 rfl (fun _ => ?_) (fun _ => ?_)
        · refine zj_aload_n d_X_people_100 rfl ?_
          refine zj_aload d_X_people_101 rfl ?_
          refine zj_getR fl_X_285 (fun _ _ _ _ => rfl) d_X_people_103 (fun v32 => ?_)
          refine zj_iload d_X_people_106 rfl ?_
          refine zj_iaload d_X_people_108 (fun v33 => ?_)
          refine zj_aload d_X_people_109 rfl ?_
          refine zj_getR fl_X_285 (fun _ _ _ _ => rfl) d_X_people_111 (fun v34 => ?_)
          refine zj_iload d_X_people_114 rfl ?_
          refine zj_iconst 1 d_X_people_116 (by decide) ?_
          refine zj_iadd d_X_people_117 ?_
          refine zj_iaload d_X_people_118 (fun v35 => ?_)
          refine zj_cVI (ci := 8) (T := zT8) (N := 16) [.int v33, .int v35] zm_V_X_hire ml_X_122 rfl (fun _ _ h => B_X_hire g (d) h) (Nat.le_refl _) ⟨Nat.zero_le _, Nat.zero_le _⟩ rfl rfl (by decide) d_X_people_119 (fun v36 u37 => ?_)
          refine zj_if_lt 128 d_X_people_122 rfl (fun _ => ?_) (fun _ => ?_)
          · refine zj_iinc (v := (x28 + 2)) [some (zr g (some this)), none, none, none, some (.int a4), some (zr g v3), some (.int x27), some (.int (x28 + 2)), some (.int x29)] d_X_people_128 rfl rfl (by decide) rfl rfl ?_
            refine zj_iinc (v := (x29 + 1)) [some (zr g (some this)), none, none, none, some (.int a4), some (zr g v3), some (.int x27), some (.int (x28 + 2)), some (.int (x29 + 1))] d_X_people_131 rfl rfl (by decide) rfl rfl ?_
            refine zj_goto 79 d_X_people_134 rfl ?_
            exact hr25 u37 x27 (x28 + 2) (x29 + 1)
          refine zj_iinc (v := (x27 + 1)) [some (zr g (some this)), none, none, none, some (.int a4), some (zr g v3), some (.int (x27 + 1)), some (.int x28), some (.int x29)] d_X_people_125 rfl rfl (by decide) (by simp [zNL, zr_cat]) rfl ?_
          refine zj_iinc (v := (x28 + 2)) [some (zr g (some this)), none, none, none, some (.int a4), some (zr g v3), some (.int (x27 + 1)), some (.int (x28 + 2)), some (.int x29)] d_X_people_128 rfl rfl (by decide) rfl rfl ?_
          refine zj_iinc (v := (x29 + 1)) [some (zr g (some this)), none, none, none, some (.int a4), some (zr g v3), some (.int (x27 + 1)), some (.int (x28 + 2)), some (.int (x29 + 1))] d_X_people_131 rfl rfl (by decide) rfl rfl ?_
          refine zj_goto 79 d_X_people_134 rfl ?_
          exact hr25 u37 (x27 + 1) (x28 + 2) (x29 + 1)
        refine zj_bipush (-12) d_X_people_97 (by decide) ?_
        exact zj_iret rfl rfl rfl rfl d_X_people_99
      refine zj_bipush (-11) d_X_people_67 (by decide) ?_
      exact zj_iret rfl rfl rfl rfl d_X_people_69
    refine zj_bipush (-13) d_X_people_56 (by decide) ?_
    exact zj_iret rfl rfl rfl rfl d_X_people_58
  refine zj_bipush (-2) d_X_people_28 (by decide) ?_
  exact zj_iret rfl rfl rfl rfl d_X_people_30
def F_X_person (u0 : zS) (this : Nat) (a1 : Int32) (a2 : Int32) : Option (Int32 × zS) := (zob u0 8 (some this)).bind fun q3 => (F_X_hire u0 q3 a1 a2).bind <| zk fun v1 u2 => some (v1, u2)
set_option maxHeartbeats 4000000 in
set_option maxRecDepth 100000 in
theorem B_X_person (g : zG) (d : Nat) {u0 : zS} {this : Nat} {a1 : Int32} {a2 : Int32} {o : Int32 × zS} (h : F_X_person u0 this a1 a2 = some o) : zMt g zy_X_person (d + 3) 0 0 [zr g (some this), .int a1, .int a2] u0 (some (.int o.1)) o.2 := by
  refine zMt_of2 (ls := [some (zr g (some this)), some (.int a1), some (.int a2)]) 0 (by decide +kernel) (by simp [lg_sl, zr_cat, zcI, zcJ]) (by simp [zal, zr_cat, zcI, zcJ, List.replicate]) ?_
  revert h
  show zJ g zy_X_person (d + 3) 0 0 zwI o 0 0 0 [some (zr g (some this)), some (.int a1), some (.int a2)] [] u0 (F_X_person u0 this a1 a2)
  unfold F_X_person
  refine zj_aload_n d_X_person_0 rfl ?_
  refine zj_iload_n d_X_person_1 rfl ?_
  refine zj_iload_n d_X_person_2 rfl ?_
  refine zj_cVI (ci := 8) (T := zT8) (N := 16) [.int a1, .int a2] zm_V_X_hire ml_X_122 rfl (fun _ _ h => B_X_hire g (d) h) (Nat.le_refl _) ⟨Nat.zero_le _, Nat.zero_le _⟩ rfl rfl (by decide) d_X_person_3 (fun v1 u2 => ?_)
  exact zj_iret rfl rfl rfl rfl d_X_person_6
def F_X_sheet (u0 : zS) (this : Nat) (a1 : Int32) (a2 : Int32) (a3 : Int32) : Option (Int32 × zS) := (F_X_isSheet u0 a1).bind fun v1 => if v1 = 0 then (some ((-2), u0)) else (if a2 < (-1) then (some ((-2), u0)) else (if a2 ≤ 2 then (if a2 = (-1) then ((zgR u0 8 (some this) 11).bind fun v7 => (zaR u0 "PostsFilled$Sheet" v7 a1).bind fun v8 => (zob u0 6 v8).bind fun q11 => (F_Sheet_become u0 q11 a2 0).bind fun u10 => some (1, u10)) else (if a3 ≤ 40 then (if 0 ≤ a3 then ((zgR u0 8 (some this) 11).bind fun v2 => (zaR u0 "PostsFilled$Sheet" v2 a1).bind fun v3 => (zob u0 6 v3).bind fun q6 => (F_Sheet_become u0 q6 a2 a3).bind fun u5 => some (1, u5)) else (some ((-14), u0))) else (some ((-2), u0)))) else (some ((-2), u0))))
set_option maxHeartbeats 4000000 in
set_option maxRecDepth 100000 in
theorem B_X_sheet (g : zG) (d : Nat) {u0 : zS} {this : Nat} {a1 : Int32} {a2 : Int32} {a3 : Int32} {o : Int32 × zS} (h : F_X_sheet u0 this a1 a2 a3 = some o) : zMt g zy_X_sheet (d + 3) 0 0 [zr g (some this), .int a1, .int a2, .int a3] u0 (some (.int o.1)) o.2 := by
  refine zMt_of2 (ls := [some (zr g (some this)), some (.int a1), some (.int a2), some (.int a3)]) 0 (by decide +kernel) (by simp [lg_sl, zr_cat, zcI, zcJ]) (by simp [zal, zr_cat, zcI, zcJ, List.replicate]) ?_
  revert h
  show zJ g zy_X_sheet (d + 3) 0 0 zwI o 0 0 0 [some (zr g (some this)), some (.int a1), some (.int a2), some (.int a3)] [] u0 (F_X_sheet u0 this a1 a2 a3)
  unfold F_X_sheet
  refine zj_iload_n d_X_sheet_0 rfl ?_
  refine zj_cSIp [.int a1] zm_S_X_isSheet ml_X_277 (fun _ h => B_X_isSheet g (d + 1) h) (Nat.le_refl _) ⟨Nat.zero_le _, Nat.zero_le _⟩ rfl rfl (by decide) d_X_sheet_1 (fun v1 => ?_)
  refine zj_if_eq 17 d_X_sheet_4 rfl (fun _ => ?_) (fun _ => ?_)
  · refine zj_bipush (-2) d_X_sheet_17 (by decide) ?_
    exact zj_iret rfl rfl rfl rfl d_X_sheet_19
  refine zj_iload_n d_X_sheet_7 rfl ?_
  refine zj_iconst (-1) d_X_sheet_8 (by decide) ?_
  refine zj_icmp_lt 17 d_X_sheet_9 rfl (fun _ => ?_) (fun _ => ?_)
  · refine zj_bipush (-2) d_X_sheet_17 (by decide) ?_
    exact zj_iret rfl rfl rfl rfl d_X_sheet_19
  refine zj_iload_n d_X_sheet_12 rfl ?_
  refine zj_iconst 2 d_X_sheet_13 (by decide) ?_
  refine zj_icmp_le 20 d_X_sheet_14 rfl (fun _ => ?_) (fun _ => ?_)
  · refine zj_iload_n d_X_sheet_20 rfl ?_
    refine zj_iconst (-1) d_X_sheet_21 (by decide) ?_
    refine zj_icmp_ne 38 d_X_sheet_22 rfl (fun _ => ?_) (fun _ => ?_)
    · refine zj_iload_n d_X_sheet_38 rfl ?_
      refine zj_bipush 40 d_X_sheet_39 (by decide) ?_
      refine zj_icmp_le 47 d_X_sheet_41 rfl (fun _ => ?_) (fun _ => ?_)
      · refine zj_iload_n d_X_sheet_47 rfl ?_
        refine zj_if_ge 54 d_X_sheet_48 rfl (fun _ => ?_) (fun _ => ?_)
        · refine zj_aload_n d_X_sheet_54 rfl ?_
          refine zj_getR fl_X_65 (fun _ _ _ _ => rfl) d_X_sheet_55 (fun v2 => ?_)
          refine zj_iload_n d_X_sheet_58 rfl ?_
          refine zj_aaload 6 rfl d_X_sheet_59 (fun v3 => ?_)
          refine zj_iload_n d_X_sheet_60 rfl ?_
          refine zj_iload_n d_X_sheet_61 rfl ?_
          refine zj_cVU (ci := 6) (T := zT6) (N := 3) [.int a2, .int a3] zm_V_Sheet_become ml_X_309 rfl (fun _ _ h => B_Sheet_become g (d) h) (Nat.le_refl _) ⟨Nat.zero_le _, Nat.zero_le _⟩ rfl rfl (by decide) d_X_sheet_62 (fun u5 => ?_)
          refine zj_iconst 1 d_X_sheet_65 (by decide) ?_
          exact zj_iret rfl rfl rfl rfl d_X_sheet_66
        refine zj_bipush (-14) d_X_sheet_51 (by decide) ?_
        exact zj_iret rfl rfl rfl rfl d_X_sheet_53
      refine zj_bipush (-2) d_X_sheet_44 (by decide) ?_
      exact zj_iret rfl rfl rfl rfl d_X_sheet_46
    refine zj_aload_n d_X_sheet_25 rfl ?_
    refine zj_getR fl_X_65 (fun _ _ _ _ => rfl) d_X_sheet_26 (fun v7 => ?_)
    refine zj_iload_n d_X_sheet_29 rfl ?_
    refine zj_aaload 6 rfl d_X_sheet_30 (fun v8 => ?_)
    refine zj_iload_n d_X_sheet_31 rfl ?_
    refine zj_iconst 0 d_X_sheet_32 (by decide) ?_
    refine zj_cVU (ci := 6) (T := zT6) (N := 3) [.int a2, .int 0] zm_V_Sheet_become ml_X_309 rfl (fun _ _ h => B_Sheet_become g (d) h) (Nat.le_refl _) ⟨Nat.zero_le _, Nat.zero_le _⟩ rfl rfl (by decide) d_X_sheet_33 (fun u10 => ?_)
    refine zj_iconst 1 d_X_sheet_36 (by decide) ?_
    exact zj_iret rfl rfl rfl rfl d_X_sheet_37
  refine zj_bipush (-2) d_X_sheet_17 (by decide) ?_
  exact zj_iret rfl rfl rfl rfl d_X_sheet_19
def F_X_valueOf (u0 : zS) (this : Nat) (a1 : Int32) (a2 : Option Nat) (a3 : Int32) : Option (Int32 × zS) := (zgR u0 8 (some this) 0).bind fun v1 => (zgR u0 8 (some this) 7).bind fun v2 => (zob u0 3 a2).bind fun q5 => (F_Person_describe u0 q5 a3 v1 v2).bind fun u4 => (zgR u4 8 (some this) 4).bind fun v6 => (zgI u4 8 (some this) 6).bind fun v7 => (zaR u4 "PostsFilled$Text" v6 v7).bind fun v8 => (zgR u4 8 (some this) 7).bind fun v9 => (zob u4 7 v8).bind fun q12 => (F_Text_valueOf u4 q12 a1 v9).bind <| zk fun v10 u11 => some (v10, u11)
set_option maxHeartbeats 4000000 in
set_option maxRecDepth 100000 in
theorem B_X_valueOf (g : zG) (d : Nat) {u0 : zS} {this : Nat} {a1 : Int32} {a2 : Option Nat} {a3 : Int32} {o : Int32 × zS} (h : F_X_valueOf u0 this a1 a2 a3 = some o) : zMt g zy_X_valueOf (d + 3) 0 0 [zr g (some this), .int a1, zr g a2, .int a3] u0 (some (.int o.1)) o.2 := by
  refine zMt_of2 (ls := [some (zr g (some this)), some (.int a1), some (zr g a2), some (.int a3)]) 0 (by decide +kernel) (by simp [lg_sl, zr_cat, zcI, zcJ]) (by simp [zal, zr_cat, zcI, zcJ, List.replicate]) ?_
  revert h
  show zJ g zy_X_valueOf (d + 3) 0 0 zwI o 0 0 0 [some (zr g (some this)), some (.int a1), some (zr g a2), some (.int a3)] [] u0 (F_X_valueOf u0 this a1 a2 a3)
  unfold F_X_valueOf
  refine zj_aload_n d_X_valueOf_0 rfl ?_
  refine zj_iload_n d_X_valueOf_1 rfl ?_
  refine zj_aload_n d_X_valueOf_2 rfl ?_
  refine zj_getR fl_X_10 (fun _ _ _ _ => rfl) d_X_valueOf_3 (fun v1 => ?_)
  refine zj_aload_n d_X_valueOf_6 rfl ?_
  refine zj_getR fl_X_38 (fun _ _ _ _ => rfl) d_X_valueOf_7 (fun v2 => ?_)
  refine zj_cVU (ci := 3) (T := zT3) (N := 10) [.int a3, zr g v1, zr g v2] zm_V_Person_describe ml_X_334 rfl (fun _ _ h => B_Person_describe g (d) h) (Nat.le_refl _) ⟨Nat.zero_le _, Nat.zero_le _⟩ rfl rfl (by decide) d_X_valueOf_10 (fun u4 => ?_)
  refine zj_aload_n d_X_valueOf_13 rfl ?_
  refine zj_getR fl_X_28 (fun _ _ _ _ => rfl) d_X_valueOf_14 (fun v6 => ?_)
  refine zj_aload_n d_X_valueOf_17 rfl ?_
  refine zj_getI fl_X_35 (fun _ _ _ _ => rfl) d_X_valueOf_18 (fun v7 => ?_)
  refine zj_aaload 5 rfl d_X_valueOf_21 (fun v8 => ?_)
  refine zj_iload_n d_X_valueOf_22 rfl ?_
  refine zj_aload_n d_X_valueOf_23 rfl ?_
  refine zj_getR fl_X_38 (fun _ _ _ _ => rfl) d_X_valueOf_24 (fun v9 => ?_)
  refine zj_cVI (ci := 7) (T := zT7) (N := 4) [.int a1, zr g v9] zm_V_Text_valueOf ml_X_338 rfl (fun _ _ h => B_Text_valueOf g (d) h) (Nat.le_refl _) ⟨Nat.zero_le _, Nat.zero_le _⟩ rfl rfl (by decide) d_X_valueOf_27 (fun v10 u11 => ?_)
  exact zj_iret rfl rfl rfl rfl d_X_valueOf_30
def F_Course_seek (u0 : zS) (this : Nat) (a1 : Int64) (a2 : Int64) (a3 : Int64) : Option (zS) := (zpI u0 0 (some this) 4 (-1)).bind fun u1 => zjn1 (fun (j3 : zS → Option (zS)) => if (lg_cmp a3 0) = 0 then (if (lg_cmp a2 0) = 0 then ((zob u1 0 (some this)).bind fun q10 => (F_Course_seekOne u1 q10 a1).bind fun u9 => j3 u9) else (j3 u1)) else (j3 u1)) (fun (u2 : zS) => if (lg_cmp a3 0) = 0 then ((zgI u2 0 (some this) 4).bind fun v4 => if v4 = (-1) then ((zob u2 0 (some this)).bind fun q7 => (F_Course_seekTwo u2 q7 a1 a2).bind fun u6 => some u6) else (some u2)) else (some u2))
set_option maxHeartbeats 4000000 in
set_option maxRecDepth 100000 in
theorem B_Course_seek (g : zG) (d : Nat) {u0 : zS} {this : Nat} {a1 : Int64} {a2 : Int64} {a3 : Int64} {o : zS} (h : F_Course_seek u0 this a1 a2 a3 = some o) : zMt g zy_Course_seek (d + 3) 0 0 [zr g (some this), .long a1, .long a2, .long a3] u0 none o := by
  refine zMt_of2 (ls := [some (zr g (some this)), some (.long a1), none, some (.long a2), none, some (.long a3), none]) 0 (by decide +kernel) (by simp [lg_sl, zr_cat, zcI, zcJ]) (by simp [zal, zr_cat, zcI, zcJ, List.replicate]) ?_
  revert h
  show zJ g zy_Course_seek (d + 3) 0 0 zwV o 0 0 0 [some (zr g (some this)), some (.long a1), none, some (.long a2), none, some (.long a3), none] [] u0 (F_Course_seek u0 this a1 a2 a3)
  unfold F_Course_seek
  refine zj_aload_n d_Course_seek_0 rfl ?_
  refine zj_iconst (-1) d_Course_seek_1 (by decide) ?_
  refine zj_putI fl_Course_26 (fun _ _ _ _ => rfl) ⟨rfl, rfl⟩ d_Course_seek_2 (fun u1 => ?_)
  refine zj_lload d_Course_seek_5 rfl ?_
  refine zj_lconst 0 d_Course_seek_7 (by decide) ?_
  refine zj_lcmp d_Course_seek_8 ?_
  refine zj_jn1 (pcj := 23) (fun u2 => [some (zr g (some this)), some (.long a1), none, some (.long a2), none, some (.long a3), none]) (fun u2 => []) (fun u2 => u2) (fun u2 => ?_) (fun j3 hj3 => ?_)
  · refine zj_lload d_Course_seek_23 rfl ?_
    refine zj_lconst 0 d_Course_seek_25 (by decide) ?_
    refine zj_lcmp d_Course_seek_26 ?_
    refine zj_if_ne 44 d_Course_seek_27 rfl (fun _ => ?_) (fun _ => ?_)
    · exact zj_vret rfl rfl rfl rfl d_Course_seek_44
    refine zj_aload_n d_Course_seek_30 rfl ?_
    refine zj_getI fl_Course_26 (fun _ _ _ _ => rfl) d_Course_seek_31 (fun v4 => ?_)
    refine zj_iconst (-1) d_Course_seek_34 (by decide) ?_
    refine zj_icmp_ne 44 d_Course_seek_35 rfl (fun _ => ?_) (fun _ => ?_)
    · exact zj_vret rfl rfl rfl rfl d_Course_seek_44
    refine zj_aload_n d_Course_seek_38 rfl ?_
    refine zj_lload_n d_Course_seek_39 rfl ?_
    refine zj_lload_n d_Course_seek_40 rfl ?_
    refine zj_cVU (ci := 0) (T := zT0) (N := 7) [.long a1, .long a2] zm_V_Course_seekTwo ml_Course_39 rfl (fun _ _ h => B_Course_seekTwo g (d) h) (Nat.le_refl _) ⟨Nat.zero_le _, Nat.zero_le _⟩ rfl rfl (by decide) d_Course_seek_41 (fun u6 => ?_)
    exact zj_vret rfl rfl rfl rfl d_Course_seek_44
  refine zj_if_ne 23 d_Course_seek_9 rfl (fun _ => ?_) (fun _ => ?_)
  · exact hj3 u1
  refine zj_lload_n d_Course_seek_12 rfl ?_
  refine zj_lconst 0 d_Course_seek_13 (by decide) ?_
  refine zj_lcmp d_Course_seek_14 ?_
  refine zj_if_ne 23 d_Course_seek_15 rfl (fun _ => ?_) (fun _ => ?_)
  · exact hj3 u1
  refine zj_aload_n d_Course_seek_18 rfl ?_
  refine zj_lload_n d_Course_seek_19 rfl ?_
  refine zj_cVU (ci := 0) (T := zT0) (N := 7) [.long a1] zm_V_Course_seekOne ml_Course_35 rfl (fun _ _ h => B_Course_seekOne g (d) h) (Nat.le_refl _) ⟨Nat.zero_le _, Nat.zero_le _⟩ rfl rfl (by decide) d_Course_seek_20 (fun u9 => ?_)
  exact hj3 u9
def F_Cover_bears (u0 : zS) (this : Nat) (a1 : Int32) (a2 : Int32) : Option (Int32) := if a2 < a1 then (some 1) else ((zob u0 1 (some this)).bind fun q2 => (F_Cover_lacking u0 q2 a1 1).bind fun v1 => if (lg_cmp v1 0) = 0 then (some 1) else (some 0))
set_option maxHeartbeats 4000000 in
set_option maxRecDepth 100000 in
theorem B_Cover_bears (g : zG) (d : Nat) {u0 : zS} {this : Nat} {a1 : Int32} {a2 : Int32} {o : Int32} (h : F_Cover_bears u0 this a1 a2 = some o) : zMt g zy_Cover_bears (d + 3) 0 0 [zr g (some this), .int a1, .int a2] u0 (some (.int o)) u0 := by
  refine zMt_of2 (ls := [some (zr g (some this)), some (.int a1), some (.int a2)]) 0 (by decide +kernel) (by simp [lg_sl, zr_cat, zcI, zcJ]) (by simp [zal, zr_cat, zcI, zcJ, List.replicate]) ?_
  revert h
  show zJ g zy_Cover_bears (d + 3) 0 0 (zwIp u0) o 0 0 0 [some (zr g (some this)), some (.int a1), some (.int a2)] [] u0 (F_Cover_bears u0 this a1 a2)
  unfold F_Cover_bears
  refine zj_iload_n d_Cover_bears_0 rfl ?_
  refine zj_iload_n d_Cover_bears_1 rfl ?_
  refine zj_icmp_gt 16 d_Cover_bears_2 rfl (fun _ => ?_) (fun _ => ?_)
  · refine zj_iconst 1 d_Cover_bears_16 (by decide) ?_
    refine zj_goto 21 d_Cover_bears_17 rfl ?_
    exact zj_zretL (by decide) rfl rfl rfl rfl d_Cover_bears_21
  refine zj_aload_n d_Cover_bears_5 rfl ?_
  refine zj_iload_n d_Cover_bears_6 rfl ?_
  refine zj_iconst 1 d_Cover_bears_7 (by decide) ?_
  refine zj_cVJp (ci := 1) (T := zT1) (N := 3) [.int a1, .int 1] zm_V_Cover_lacking ml_Cover_28 rfl (fun _ _ h => B_Cover_lacking g (d) h) (Nat.le_refl _) ⟨Nat.zero_le _, Nat.zero_le _⟩ rfl rfl (by decide) d_Cover_bears_8 (fun v1 => ?_)
  refine zj_lconst 0 d_Cover_bears_11 (by decide) ?_
  refine zj_lcmp d_Cover_bears_12 ?_
  refine zj_if_ne 20 d_Cover_bears_13 rfl (fun _ => ?_) (fun _ => ?_)
  · refine zj_iconst 0 d_Cover_bears_20 (by decide) ?_
    exact zj_zretL (by decide) rfl rfl rfl rfl d_Cover_bears_21
  refine zj_iconst 1 d_Cover_bears_16 (by decide) ?_
  refine zj_goto 21 d_Cover_bears_17 rfl ?_
  exact zj_zretL (by decide) rfl rfl rfl rfl d_Cover_bears_21
def F_Person_recalls (u0 : zS) (this : Nat) (a1 : Int32) (a2 : Int32) : Option (Int32) := (zgR u0 3 (some this) 5).bind fun v1 => (zaI u0 .int v1 a1).bind fun v2 => if v2 = (-1) then (some 0) else ((zgR u0 3 (some this) 5).bind fun v3 => (zaI u0 .int v3 a1).bind fun v4 => (zob u0 3 (some this)).bind fun q6 => (F_Person_keeps u0 q6 ).bind fun v5 => if v5 < (a2 - v4) then (some 0) else (some 1))
set_option maxHeartbeats 4000000 in
set_option maxRecDepth 100000 in
theorem B_Person_recalls (g : zG) (d : Nat) {u0 : zS} {this : Nat} {a1 : Int32} {a2 : Int32} {o : Int32} (h : F_Person_recalls u0 this a1 a2 = some o) : zMt g zy_Person_recalls (d + 3) 0 0 [zr g (some this), .int a1, .int a2] u0 (some (.int o)) u0 := by
  refine zMt_of2 (ls := [some (zr g (some this)), some (.int a1), some (.int a2)]) 0 (by decide +kernel) (by simp [lg_sl, zr_cat, zcI, zcJ]) (by simp [zal, zr_cat, zcI, zcJ, List.replicate]) ?_
  revert h
  show zJ g zy_Person_recalls (d + 3) 0 0 (zwIp u0) o 0 0 0 [some (zr g (some this)), some (.int a1), some (.int a2)] [] u0 (F_Person_recalls u0 this a1 a2)
  unfold F_Person_recalls
  refine zj_aload_n d_Person_recalls_0 rfl ?_
  refine zj_getR fl_Person_27 (fun _ _ _ _ => rfl) d_Person_recalls_1 (fun v1 => ?_)
  refine zj_iload_n d_Person_recalls_4 rfl ?_
  refine zj_iaload d_Person_recalls_5 (fun v2 => ?_)
  refine zj_iconst (-1) d_Person_recalls_6 (by decide) ?_
  refine zj_icmp_eq 29 d_Person_recalls_7 rfl (fun _ => ?_) (fun _ => ?_)
  · refine zj_iconst 0 d_Person_recalls_29 (by decide) ?_
    exact zj_zretL (by decide) rfl rfl rfl rfl d_Person_recalls_30
  refine zj_iload_n d_Person_recalls_10 rfl ?_
  refine zj_aload_n d_Person_recalls_11 rfl ?_
  refine zj_getR fl_Person_27 (fun _ _ _ _ => rfl) d_Person_recalls_12 (fun v3 => ?_)
  refine zj_iload_n d_Person_recalls_15 rfl ?_
  refine zj_iaload d_Person_recalls_16 (fun v4 => ?_)
  refine zj_isub d_Person_recalls_17 ?_
  refine zj_aload_n d_Person_recalls_18 rfl ?_
  refine zj_cVIp (ci := 3) (T := zT3) (N := 10) [] zm_V_Person_keeps ml_Person_56 rfl (fun _ _ h => B_Person_keeps g (d) h) (Nat.le_refl _) ⟨Nat.zero_le _, Nat.zero_le _⟩ rfl rfl (by simp [zcI, zcJ]) d_Person_recalls_19 (fun v5 => ?_)
  refine zj_icmp_gt 29 d_Person_recalls_22 rfl (fun _ => ?_) (fun _ => ?_)
  · refine zj_iconst 0 d_Person_recalls_29 (by decide) ?_
    exact zj_zretL (by decide) rfl rfl rfl rfl d_Person_recalls_30
  refine zj_iconst 1 d_Person_recalls_25 (by decide) ?_
  refine zj_goto 30 d_Person_recalls_26 rfl ?_
  exact zj_zretL (by decide) rfl rfl rfl rfl d_Person_recalls_30
def F_Plan_layDown (u0 : zS) (this : Nat) (a1 : Int32) : Option (Int32 × zS) := (zgR u0 4 (some this) 3).bind fun v1 => (zaI u0 .int v1 a1).bind fun v2 => if v2 = (-1) then (some ((-1), u0)) else (zfix3 (fun (r3 : zS → Int32 → Int32 → Option (Int32 × zS)) (u4 : zS) (x5 : Int32) (x6 : Int32) => (zgI u4 4 (some this) 0).bind fun v7 => if v7 ≤ x6 then (some (v2, u4)) else ((zgR u4 4 (some this) 4).bind fun v8 => (zob u4 4 (some this)).bind fun q10 => (F_Plan_firstAt u4 q10 x6 x5).bind fun v9 => (zsI u4 v8 x6 v9).bind fun u11 => (zgR u11 4 (some this) 4).bind fun v12 => (zaI u11 .int v12 x6).bind fun v13 => if v13 = (-1) then (r3 u11 x5 (x6 + 1)) else ((zgR u11 4 (some this) 4).bind fun v14 => (zaI u11 .int v14 x6).bind fun v15 => zlet ((x5 &&& (((1 : Int32) <<< (v15 &&& 31)) ^^^ (-1))) : Int32) fun x16 => r3 u11 x16 (x6 + 1)))) zFU u0 a1 0)
set_option maxHeartbeats 4000000 in
set_option maxRecDepth 100000 in
theorem B_Plan_layDown (g : zG) (d : Nat) {u0 : zS} {this : Nat} {a1 : Int32} {o : Int32 × zS} (h : F_Plan_layDown u0 this a1 = some o) : zMt g zy_Plan_layDown (d + 3) 0 0 [zr g (some this), .int a1] u0 (some (.int o.1)) o.2 := by
  refine zMt_of2 (ls := [some (zr g (some this)), some (.int a1), none, none, none]) 3 (by decide +kernel) (by simp [lg_sl, zr_cat, zcI, zcJ]) (by simp [zal, zr_cat, zcI, zcJ, List.replicate]) ?_
  revert h
  show zJ g zy_Plan_layDown (d + 3) 0 0 zwI o 0 0 0 [some (zr g (some this)), some (.int a1), none, none, none] [] u0 (F_Plan_layDown u0 this a1)
  unfold F_Plan_layDown
  refine zj_aload_n d_Plan_layDown_0 rfl ?_
  refine zj_getR fl_Plan_22 (fun _ _ _ _ => rfl) d_Plan_layDown_1 (fun v1 => ?_)
  refine zj_iload_n d_Plan_layDown_4 rfl ?_
  refine zj_iaload d_Plan_layDown_5 (fun v2 => ?_)
  refine zj_istore_n [some (zr g (some this)), some (.int a1), some (.int v2), none, none] d_Plan_layDown_6 (by decide) rfl rfl ?_
  refine zj_iload_n d_Plan_layDown_7 rfl ?_
  refine zj_iconst (-1) d_Plan_layDown_8 (by decide) ?_
  refine zj_icmp_ne 14 d_Plan_layDown_9 rfl (fun _ => ?_) (fun _ => ?_)
  · refine zj_iload_n d_Plan_layDown_14 rfl ?_
    refine zj_istore_n [some (zr g (some this)), some (.int a1), some (.int v2), some (.int a1), none] d_Plan_layDown_15 (by decide) rfl rfl ?_
    refine zj_iconst 0 d_Plan_layDown_16 (by decide) ?_
    refine zj_istore [some (zr g (some this)), some (.int a1), some (.int v2), some (.int a1), some (.int 0)] d_Plan_layDown_17 (by decide) rfl rfl ?_
    refine zj_cut [some (zr g (some this)), none, some (.int v2), some (.int a1), some (.int 0)] ⟨rfl, ⟨rfl, ⟨rfl, ⟨rfl, trivial⟩⟩⟩⟩ ?_
    refine zj_fix3 (fun u4 x5 x6 => [some (zr g (some this)), none, some (.int v2), some (.int x5), some (.int x6)]) (fun u4 x5 x6 => u4) (fun r3 hr3 u4 x5 x6 => ?_) u0 a1 0
    refine zj_iload d_Plan_layDown_19 rfl ?_
    refine zj_aload_n d_Plan_layDown_21 rfl ?_
    refine zj_getI fl_Plan_9 (fun _ _ _ _ => rfl) d_Plan_layDown_22 (fun v7 => ?_)
    refine zj_icmp_ge 73 d_Plan_layDown_25 rfl (fun _ => ?_) (fun _ => ?_)
    · refine zj_iload_n d_Plan_layDown_73 rfl ?_
      exact zj_iret rfl rfl rfl rfl d_Plan_layDown_74
    refine zj_aload_n d_Plan_layDown_28 rfl ?_
    refine zj_getR fl_Plan_25 (fun _ _ _ _ => rfl) d_Plan_layDown_29 (fun v8 => ?_)
    refine zj_iload d_Plan_layDown_32 rfl ?_
    refine zj_aload_n d_Plan_layDown_34 rfl ?_
    refine zj_iload d_Plan_layDown_35 rfl ?_
    refine zj_iload_n d_Plan_layDown_37 rfl ?_
    refine zj_cVIp (ci := 4) (T := zT4) (N := 5) [.int x6, .int x5] zm_V_Plan_firstAt ml_Plan_47 rfl (fun _ _ h => B_Plan_firstAt g (d) h) (Nat.le_refl _) ⟨Nat.zero_le _, Nat.zero_le _⟩ rfl rfl (by simp [zr_cat, zcI, zcJ]) d_Plan_layDown_38 (fun v9 => ?_)
    refine zj_iastore d_Plan_layDown_41 (fun u11 => ?_)
    refine zj_aload_n d_Plan_layDown_42 rfl ?_
    refine zj_getR fl_Plan_25 (fun _ _ _ _ => rfl) d_Plan_layDown_43 (fun v12 => ?_)
    refine zj_iload d_Plan_layDown_46 rfl ?_
    refine zj_iaload d_Plan_layDown_48 (fun v13 => ?_)
    refine zj_iconst (-1) d_Plan_layDown_49 (by decide) ?_
    refine zj_icmp_eq 67 d_Plan_layDown_50 rfl (fun _ => ?_) (fun _ => ?_)
    · refine zj_iinc (v := (x6 + 1)) [some (zr g (some this)), none, some (.int v2), some (.int x5), some (.int (x6 + 1))] d_Plan_layDown_67 rfl rfl (by decide) rfl rfl ?_
      refine zj_goto 19 d_Plan_layDown_70 rfl ?_
      exact hr3 u11 x5 (x6 + 1)
    refine zj_iload_n d_Plan_layDown_53 rfl ?_
    refine zj_iconst 1 d_Plan_layDown_54 (by decide) ?_
    refine zj_aload_n d_Plan_layDown_55 rfl ?_
    refine zj_getR fl_Plan_25 (fun _ _ _ _ => rfl) d_Plan_layDown_56 (fun v14 => ?_)
    refine zj_iload d_Plan_layDown_59 rfl ?_
    refine zj_iaload d_Plan_layDown_61 (fun v15 => ?_)
    refine zj_ishl d_Plan_layDown_62 ?_
    refine zj_iconst (-1) d_Plan_layDown_63 (by decide) ?_
    refine zj_ixor d_Plan_layDown_64 ?_
    refine zj_iand d_Plan_layDown_65 ?_
    refine zj_letI (fun x16 => ?_)
    refine zj_istore_n [some (zr g (some this)), none, some (.int v2), some (.int x16), some (.int x6)] d_Plan_layDown_66 (by decide) rfl rfl ?_
    refine zj_iinc (v := (x6 + 1)) [some (zr g (some this)), none, some (.int v2), some (.int x16), some (.int (x6 + 1))] d_Plan_layDown_67 rfl rfl (by decide) rfl rfl ?_
    refine zj_goto 19 d_Plan_layDown_70 rfl ?_
    exact hr3 u11 x16 (x6 + 1)
  refine zj_iconst (-1) d_Plan_layDown_12 (by decide) ?_
  exact zj_iret rfl rfl rfl rfl d_Plan_layDown_13
def F_Plan_reckon (u0 : zS) (this : Nat) (a1 : Int32) (a2 : Int32) : Option (zS) := (zgI u0 4 (some this) 0).bind fun v1 => zfix2 (fun (r2 : zS → Int32 → Option (zS)) (u3 : zS) (x4 : Int32) => if x4 < 0 then (some u3) else (zfix2 (fun (r5 : zS → Int32 → Option (zS)) (u6 : zS) (x7 : Int32) => if a1 < x7 then (r2 u6 (x4 + (-1))) else (if 128 ≤ x7 then (r2 u6 (x4 + (-1))) else (if (x7 &&& (a1 ^^^ (-1))) = 0 then ((F_Integer_bitCount u6 (a1 ^^^ x7)).bind fun v8 => if (a2 + x4) < v8 then (r5 u6 (x7 + 1)) else ((zgR u6 4 (some this) 3).bind fun v9 => (zgI u6 4 (some this) 0).bind fun v10 => if x4 = v10 then ((zsI u6 v9 ((x4 * 128) + x7) 0).bind fun u14 => r5 u14 (x7 + 1)) else ((zob u6 4 (some this)).bind fun q12 => (F_Plan_most u6 q12 x4 x7).bind fun v11 => (zsI u6 v9 ((x4 * 128) + x7) v11).bind fun u13 => r5 u13 (x7 + 1)))) else (r5 u6 (x7 + 1))))) zFU u3 0)) zFU u0 v1
set_option maxHeartbeats 4000000 in
set_option maxRecDepth 100000 in
theorem B_Plan_reckon (g : zG) (d : Nat) {u0 : zS} {this : Nat} {a1 : Int32} {a2 : Int32} {o : zS} (h : F_Plan_reckon u0 this a1 a2 = some o) : zMt g zy_Plan_reckon (d + 3) 0 0 [zr g (some this), .int a1, .int a2] u0 none o := by
  refine zMt_of2 (ls := [some (zr g (some this)), some (.int a1), some (.int a2), none, none]) 2 (by decide +kernel) (by simp [lg_sl, zr_cat, zcI, zcJ]) (by simp [zal, zr_cat, zcI, zcJ, List.replicate]) ?_
  revert h
  show zJ g zy_Plan_reckon (d + 3) 0 0 zwV o 0 0 0 [some (zr g (some this)), some (.int a1), some (.int a2), none, none] [] u0 (F_Plan_reckon u0 this a1 a2)
  unfold F_Plan_reckon
  refine zj_aload_n d_Plan_reckon_0 rfl ?_
  refine zj_getI fl_Plan_9 (fun _ _ _ _ => rfl) d_Plan_reckon_1 (fun v1 => ?_)
  refine zj_istore_n [some (zr g (some this)), some (.int a1), some (.int a2), some (.int v1), none] d_Plan_reckon_4 (by decide) rfl rfl ?_
  refine zj_fix2 (fun u3 x4 => [some (zr g (some this)), some (.int a1), some (.int a2), some (.int x4), none]) (fun u3 x4 => u3) (fun r2 hr2 u3 x4 => ?_) u0 v1
  refine zj_iload_n d_Plan_reckon_5 rfl ?_
  refine zj_if_lt 92 d_Plan_reckon_6 rfl (fun _ => ?_) (fun _ => ?_)
  · exact zj_vret rfl rfl rfl rfl d_Plan_reckon_92
  refine zj_iconst 0 d_Plan_reckon_9 (by decide) ?_
  refine zj_istore [some (zr g (some this)), some (.int a1), some (.int a2), some (.int x4), some (.int 0)] d_Plan_reckon_10 (by decide) rfl rfl ?_
  refine zj_fix2 (fun u6 x7 => [some (zr g (some this)), some (.int a1), some (.int a2), some (.int x4), some (.int x7)]) (fun u6 x7 => u6) (fun r5 hr5 u6 x7 => ?_) u3 0
  refine zj_iload d_Plan_reckon_12 rfl ?_
  refine zj_iload_n d_Plan_reckon_14 rfl ?_
  refine zj_icmp_gt 86 d_Plan_reckon_15 rfl (fun _ => ?_) (fun _ => ?_)
  · refine zj_iinc (v := (x4 + (-1))) [some (zr g (some this)), some (.int a1), some (.int a2), some (.int (x4 + (-1))), some (.int x7)] d_Plan_reckon_86 rfl rfl (by decide) rfl rfl ?_
    refine zj_goto 5 d_Plan_reckon_89 rfl ?_
    refine zj_cut [some (zr g (some this)), some (.int a1), some (.int a2), some (.int (x4 + (-1))), none] ⟨rfl, ⟨rfl, ⟨rfl, ⟨rfl, trivial⟩⟩⟩⟩ ?_
    exact hr2 u6 (x4 + (-1))
  refine zj_iload d_Plan_reckon_18 rfl ?_
  refine zj_sipush 128 d_Plan_reckon_20 (by decide) ?_
  refine zj_icmp_ge 86 d_Plan_reckon_23 rfl (fun _ => ?_) (fun _ => ?_)
  · refine zj_iinc (v := (x4 + (-1))) [some (zr g (some this)), some (.int a1), some (.int a2), some (.int (x4 + (-1))), some (.int x7)] d_Plan_reckon_86 rfl rfl (by decide) rfl rfl ?_
    refine zj_goto 5 d_Plan_reckon_89 rfl ?_
    refine zj_cut [some (zr g (some this)), some (.int a1), some (.int a2), some (.int (x4 + (-1))), none] ⟨rfl, ⟨rfl, ⟨rfl, ⟨rfl, trivial⟩⟩⟩⟩ ?_
    exact hr2 u6 (x4 + (-1))
  refine zj_iload d_Plan_reckon_26 rfl ?_
  refine zj_iload_n d_Plan_reckon_28 rfl ?_
  refine zj_iconst (-1) d_Plan_reckon_29 (by decide) ?_
  refine zj_ixor d_Plan_reckon_30 ?_
  refine zj_iand d_Plan_reckon_31 ?_
  refine zj_if_ne 80 d_Plan_reckon_32 rfl (fun _ => ?_) (fun _ => ?_)
  · refine zj_iinc (v := (x7 + 1)) [some (zr g (some this)), some (.int a1), some (.int a2), some (.int x4), some (.int (x7 + 1))] d_Plan_reckon_80 rfl rfl (by decide) rfl rfl ?_
    refine zj_goto 12 d_Plan_reckon_83 rfl ?_
    exact hr5 u6 (x7 + 1)
  refine zj_iload_n d_Plan_reckon_35 rfl ?_
  refine zj_iload d_Plan_reckon_36 rfl ?_
  refine zj_ixor d_Plan_reckon_38 ?_
  refine zj_cSIp [.int (a1 ^^^ x7)] zm_S_Integer_bitCount ml_Plan_28 (fun _ h => B_Integer_bitCount g (d + 1) h) (Nat.le_refl _) ⟨Nat.zero_le _, Nat.zero_le _⟩ rfl rfl (by decide) d_Plan_reckon_39 (fun v8 => ?_)
  refine zj_iload_n d_Plan_reckon_42 rfl ?_
  refine zj_iload_n d_Plan_reckon_43 rfl ?_
  refine zj_iadd d_Plan_reckon_44 ?_
  refine zj_icmp_gt 80 d_Plan_reckon_45 rfl (fun _ => ?_) (fun _ => ?_)
  · refine zj_iinc (v := (x7 + 1)) [some (zr g (some this)), some (.int a1), some (.int a2), some (.int x4), some (.int (x7 + 1))] d_Plan_reckon_80 rfl rfl (by decide) rfl rfl ?_
    refine zj_goto 12 d_Plan_reckon_83 rfl ?_
    exact hr5 u6 (x7 + 1)
  refine zj_aload_n d_Plan_reckon_48 rfl ?_
  refine zj_getR fl_Plan_22 (fun _ _ _ _ => rfl) d_Plan_reckon_49 (fun v9 => ?_)
  refine zj_iload_n d_Plan_reckon_52 rfl ?_
  refine zj_sipush 128 d_Plan_reckon_53 (by decide) ?_
  refine zj_imul d_Plan_reckon_56 ?_
  refine zj_iload d_Plan_reckon_57 rfl ?_
  refine zj_iadd d_Plan_reckon_59 ?_
  refine zj_iload_n d_Plan_reckon_60 rfl ?_
  refine zj_aload_n d_Plan_reckon_61 rfl ?_
  refine zj_getI fl_Plan_9 (fun _ _ _ _ => rfl) d_Plan_reckon_62 (fun v10 => ?_)
  refine zj_icmp_ne 72 d_Plan_reckon_65 rfl (fun _ => ?_) (fun _ => ?_)
  · refine zj_aload_n d_Plan_reckon_72 rfl ?_
    refine zj_iload_n d_Plan_reckon_73 rfl ?_
    refine zj_iload d_Plan_reckon_74 rfl ?_
    refine zj_cVIp (ci := 4) (T := zT4) (N := 5) [.int x4, .int x7] zm_V_Plan_most ml_Plan_34 rfl (fun _ _ h => B_Plan_most g (d) h) (Nat.le_refl _) ⟨Nat.zero_le _, Nat.zero_le _⟩ rfl rfl (by simp [zr_cat, zcI, zcJ]) d_Plan_reckon_76 (fun v11 => ?_)
    refine zj_iastore d_Plan_reckon_79 (fun u13 => ?_)
    refine zj_iinc (v := (x7 + 1)) [some (zr g (some this)), some (.int a1), some (.int a2), some (.int x4), some (.int (x7 + 1))] d_Plan_reckon_80 rfl rfl (by decide) rfl rfl ?_
    refine zj_goto 12 d_Plan_reckon_83 rfl ?_
    exact hr5 u13 (x7 + 1)
  refine zj_iconst 0 d_Plan_reckon_68 (by decide) ?_
  refine zj_goto 79 d_Plan_reckon_69 rfl ?_
  refine zj_iastore d_Plan_reckon_79 (fun u14 => ?_)
  refine zj_iinc (v := (x7 + 1)) [some (zr g (some this)), some (.int a1), some (.int a2), some (.int x4), some (.int (x7 + 1))] d_Plan_reckon_80 rfl rfl (by decide) rfl rfl ?_
  refine zj_goto 12 d_Plan_reckon_83 rfl ?_
  exact hr5 u14 (x7 + 1)
def F_M_bar (u0 : zS) (this : Nat) (a1 : Int32) (a2 : Int32) (a3 : Int32) : Option (Int32 × zS) := (zob u0 9 (some this)).bind fun q2 => (F_M_isPerson u0 q2 a1).bind fun v1 => if v1 = 0 then (some ((-2), u0)) else ((zob u0 9 (some this)).bind fun q4 => (F_M_isPost u0 q4 a2).bind fun v3 => if v3 = 0 then (some ((-2), u0)) else ((F_M_in u0 ((a3 : Int32).toInt64) 0 1).bind fun v5 => if v5 = 0 then (some ((-2), u0)) else ((zgR u0 9 (some this) 13).bind fun v6 => (zaI u0 .boolean v6 (((6 : Int32) * a1) + a2)).bind fun v7 => zjn1 (fun (j9 : Int32 → Option (Int32 × zS)) => if v7 = 0 then (j9 0) else (j9 1)) (fun (x8 : Int32) => (zgR u0 9 (some this) 13).bind fun v10 => if a3 = 1 then ((zsZ u0 v10 (((6 : Int32) * a1) + a2) 1).bind fun u12 => some (x8, u12)) else ((zsZ u0 v10 (((6 : Int32) * a1) + a2) 0).bind fun u11 => some (x8, u11))))))
set_option maxHeartbeats 4000000 in
set_option maxRecDepth 100000 in
theorem B_M_bar (g : zG) (d : Nat) {u0 : zS} {this : Nat} {a1 : Int32} {a2 : Int32} {a3 : Int32} {o : Int32 × zS} (h : F_M_bar u0 this a1 a2 a3 = some o) : zMt g zy_M_bar (d + 3) 0 0 [zr g (some this), .int a1, .int a2, .int a3] u0 (some (.int o.1)) o.2 := by
  refine zMt_of2 (ls := [some (zr g (some this)), some (.int a1), some (.int a2), some (.int a3), none]) 1 (by decide +kernel) (by simp [lg_sl, zr_cat, zcI, zcJ]) (by simp [zal, zr_cat, zcI, zcJ, List.replicate]) ?_
  revert h
  show zJ g zy_M_bar (d + 3) 0 0 zwI o 0 0 0 [some (zr g (some this)), some (.int a1), some (.int a2), some (.int a3), none] [] u0 (F_M_bar u0 this a1 a2 a3)
  unfold F_M_bar
  refine zj_aload_n d_M_bar_0 rfl ?_
  refine zj_iload_n d_M_bar_1 rfl ?_
  refine zj_cVIp (ci := 9) (T := zT9) (N := 53) [.int a1] zm_V_M_isPerson ml_M_133 rfl (fun _ _ h => B_M_isPerson g (d) h) (Nat.le_refl _) ⟨Nat.zero_le _, Nat.zero_le _⟩ rfl rfl (by decide) d_M_bar_2 (fun v1 => ?_)
  refine zj_if_eq 26 d_M_bar_5 rfl (fun _ => ?_) (fun _ => ?_)
  · refine zj_bipush (-2) d_M_bar_26 (by decide) ?_
    exact zj_iret rfl rfl rfl rfl d_M_bar_28
  refine zj_aload_n d_M_bar_8 rfl ?_
  refine zj_iload_n d_M_bar_9 rfl ?_
  refine zj_cVIp (ci := 9) (T := zT9) (N := 53) [.int a2] zm_V_M_isPost ml_M_120 rfl (fun _ _ h => B_M_isPost g (d) h) (Nat.le_refl _) ⟨Nat.zero_le _, Nat.zero_le _⟩ rfl rfl (by decide) d_M_bar_10 (fun v3 => ?_)
  refine zj_if_eq 26 d_M_bar_13 rfl (fun _ => ?_) (fun _ => ?_)
  · refine zj_bipush (-2) d_M_bar_26 (by decide) ?_
    exact zj_iret rfl rfl rfl rfl d_M_bar_28
  refine zj_iload_n d_M_bar_16 rfl ?_
  refine zj_i2l d_M_bar_17 ?_
  refine zj_lconst 0 d_M_bar_18 (by decide) ?_
  refine zj_lconst 1 d_M_bar_19 (by decide) ?_
  refine zj_cSIp [.long ((a3 : Int32).toInt64), .long 0, .long 1] zm_S_M_in ml_M_109 (fun _ h => B_M_in g (d + 1) h) (Nat.le_refl _) ⟨Nat.zero_le _, Nat.zero_le _⟩ rfl rfl (by decide) d_M_bar_20 (fun v5 => ?_)
  refine zj_if_ne 29 d_M_bar_23 rfl (fun _ => ?_) (fun _ => ?_)
  · refine zj_aload_n d_M_bar_29 rfl ?_
    refine zj_getR fl_M_42 (fun _ _ _ _ => rfl) d_M_bar_30 (fun v6 => ?_)
    refine zj_bipush 6 d_M_bar_33 (by decide) ?_
    refine zj_iload_n d_M_bar_35 rfl ?_
    refine zj_imul d_M_bar_36 ?_
    refine zj_iload_n d_M_bar_37 rfl ?_
    refine zj_iadd d_M_bar_38 ?_
    refine zj_zaload d_M_bar_39 (fun v7 => ?_)
    refine zj_jn1 (pcj := 48) (fun x8 => [some (zr g (some this)), some (.int a1), some (.int a2), some (.int a3), none]) (fun x8 => [.int x8]) (fun x8 => u0) (fun x8 => ?_) (fun j9 hj9 => ?_)
    · refine zj_istore [some (zr g (some this)), some (.int a1), some (.int a2), some (.int a3), some (.int x8)] d_M_bar_48 (by decide) rfl rfl ?_
      refine zj_aload_n d_M_bar_50 rfl ?_
      refine zj_getR fl_M_42 (fun _ _ _ _ => rfl) d_M_bar_51 (fun v10 => ?_)
      refine zj_bipush 6 d_M_bar_54 (by decide) ?_
      refine zj_iload_n d_M_bar_56 rfl ?_
      refine zj_imul d_M_bar_57 ?_
      refine zj_iload_n d_M_bar_58 rfl ?_
      refine zj_iadd d_M_bar_59 ?_
      refine zj_iload_n d_M_bar_60 rfl ?_
      refine zj_iconst 1 d_M_bar_61 (by decide) ?_
      refine zj_icmp_ne 69 d_M_bar_62 rfl (fun _ => ?_) (fun _ => ?_)
      · refine zj_iconst 0 d_M_bar_69 (by decide) ?_
        refine zj_zastore d_M_bar_70 (fun u11 => ?_)
        refine zj_iload d_M_bar_71 rfl ?_
        exact zj_iret rfl rfl rfl rfl d_M_bar_73
      refine zj_iconst 1 d_M_bar_65 (by decide) ?_
      refine zj_goto 70 d_M_bar_66 rfl ?_
      refine zj_zastore d_M_bar_70 (fun u12 => ?_)
      refine zj_iload d_M_bar_71 rfl ?_
      exact zj_iret rfl rfl rfl rfl d_M_bar_73
    refine zj_if_eq 47 d_M_bar_40 rfl (fun _ => ?_) (fun _ => ?_)
    · refine zj_iconst 0 d_M_bar_47 (by decide) ?_
      exact hj9 0
    refine zj_iconst 1 d_M_bar_43 (by decide) ?_
    refine zj_goto 48 d_M_bar_44 rfl ?_
    exact hj9 1
  refine zj_bipush (-2) d_M_bar_26 (by decide) ?_
  exact zj_iret rfl rfl rfl rfl d_M_bar_28
def F_M_cell (u0 : zS) (this : Nat) (a1 : Int32) (a2 : Int32) (a3 : Int32) : Option (Int32 × zS) := (F_M_isSheet u0 a1).bind fun v1 => if v1 = 0 then (some ((-2), u0)) else ((zgR u0 9 (some this) 49).bind fun v2 => (zaI u0 .int v2 a1).bind fun v3 => if 0 ≤ v3 then ((zgR u0 9 (some this) 50).bind fun v4 => (zaI u0 .int v4 a1).bind fun v5 => (F_M_in u0 ((a2 : Int32).toInt64) 0 (((v5 - 1) : Int32).toInt64)).bind fun v6 => if v6 = 0 then (some ((-12), u0)) else ((zgR u0 9 (some this) 51).bind fun v7 => (zgR u0 9 (some this) 49).bind fun v8 => (zaI u0 .int v8 a1).bind fun v9 => if v9 = 0 then ((zsI u0 v7 (((40 : Int32) * a1) + a2) ((a3 : Int32).toInt8.toInt32)).bind fun u14 => some (1, u14)) else ((zgR u0 9 (some this) 49).bind fun v10 => (zaI u0 .int v10 a1).bind fun v11 => if v11 = 1 then ((zsI u0 v7 (((40 : Int32) * a1) + a2) ((a3 : Int32).toInt16.toInt32)).bind fun u13 => some (1, u13)) else ((zsI u0 v7 (((40 : Int32) * a1) + a2) a3).bind fun u12 => some (1, u12))))) else (some ((-11), u0)))
set_option maxHeartbeats 4000000 in
set_option maxRecDepth 100000 in
theorem B_M_cell (g : zG) (d : Nat) {u0 : zS} {this : Nat} {a1 : Int32} {a2 : Int32} {a3 : Int32} {o : Int32 × zS} (h : F_M_cell u0 this a1 a2 a3 = some o) : zMt g zy_M_cell (d + 3) 0 0 [zr g (some this), .int a1, .int a2, .int a3] u0 (some (.int o.1)) o.2 := by
  refine zMt_of2 (ls := [some (zr g (some this)), some (.int a1), some (.int a2), some (.int a3)]) 0 (by decide +kernel) (by simp [lg_sl, zr_cat, zcI, zcJ]) (by simp [zal, zr_cat, zcI, zcJ, List.replicate]) ?_
  revert h
  show zJ g zy_M_cell (d + 3) 0 0 zwI o 0 0 0 [some (zr g (some this)), some (.int a1), some (.int a2), some (.int a3)] [] u0 (F_M_cell u0 this a1 a2 a3)
  unfold F_M_cell
  refine zj_iload_n d_M_cell_0 rfl ?_
  refine zj_cSIp [.int a1] zm_S_M_isSheet ml_M_339 (fun _ h => B_M_isSheet g (d) h) (Nat.le_refl _) ⟨Nat.zero_le _, Nat.zero_le _⟩ rfl rfl (by decide) d_M_cell_1 (fun v1 => ?_)
  refine zj_if_ne 10 d_M_cell_4 rfl (fun _ => ?_) (fun _ => ?_)
  · refine zj_aload_n d_M_cell_10 rfl ?_
    refine zj_getR fl_M_91 (fun _ _ _ _ => rfl) d_M_cell_11 (fun v2 => ?_)
    refine zj_iload_n d_M_cell_14 rfl ?_
    refine zj_iaload d_M_cell_15 (fun v3 => ?_)
    refine zj_if_ge 22 d_M_cell_16 rfl (fun _ => ?_) (fun _ => ?_)
    · refine zj_iload_n d_M_cell_22 rfl ?_
      refine zj_i2l d_M_cell_23 ?_
      refine zj_lconst 0 d_M_cell_24 (by decide) ?_
      refine zj_aload_n d_M_cell_25 rfl ?_
      refine zj_getR fl_M_94 (fun _ _ _ _ => rfl) d_M_cell_26 (fun v4 => ?_)
      refine zj_iload_n d_M_cell_29 rfl ?_
      refine zj_iaload d_M_cell_30 (fun v5 => ?_)
      refine zj_iconst 1 d_M_cell_31 (by decide) ?_
      refine zj_isub d_M_cell_32 ?_
      refine zj_i2l d_M_cell_33 ?_
      refine zj_cSIp [.long ((a2 : Int32).toInt64), .long 0, .long (((v5 - 1) : Int32).toInt64)] zm_S_M_in ml_M_109 (fun _ h => B_M_in g (d + 1) h) (Nat.le_refl _) ⟨Nat.zero_le _, Nat.zero_le _⟩ rfl rfl (by decide) d_M_cell_34 (fun v6 => ?_)
      refine zj_if_ne 43 d_M_cell_37 rfl (fun _ => ?_) (fun _ => ?_)
      · refine zj_aload_n d_M_cell_43 rfl ?_
        refine zj_getR fl_M_97 (fun _ _ _ _ => rfl) d_M_cell_44 (fun v7 => ?_)
        refine zj_bipush 40 d_M_cell_47 (by decide) ?_
        refine zj_iload_n d_M_cell_49 rfl ?_
        refine zj_imul d_M_cell_50 ?_
        refine zj_iload_n d_M_cell_51 rfl ?_
        refine zj_iadd d_M_cell_52 ?_
        refine zj_aload_n d_M_cell_53 rfl ?_
        refine zj_getR fl_M_91 (fun _ _ _ _ => rfl) d_M_cell_54 (fun v8 => ?_)
        refine zj_iload_n d_M_cell_57 rfl ?_
        refine zj_iaload d_M_cell_58 (fun v9 => ?_)
        refine zj_if_ne 67 d_M_cell_59 rfl (fun _ => ?_) (fun _ => ?_)
        · refine zj_aload_n d_M_cell_67 rfl ?_
          refine zj_getR fl_M_91 (fun _ _ _ _ => rfl) d_M_cell_68 (fun v10 => ?_)
          refine zj_iload_n d_M_cell_71 rfl ?_
          refine zj_iaload d_M_cell_72 (fun v11 => ?_)
          refine zj_iconst 1 d_M_cell_73 (by decide) ?_
          refine zj_icmp_ne 82 d_M_cell_74 rfl (fun _ => ?_) (fun _ => ?_)
          · refine zj_iload_n d_M_cell_82 rfl ?_
            refine zj_iastore d_M_cell_83 (fun u12 => ?_)
            refine zj_iconst 1 d_M_cell_84 (by decide) ?_
            exact zj_iret rfl rfl rfl rfl d_M_cell_85
          refine zj_iload_n d_M_cell_77 rfl ?_
          refine zj_i2s d_M_cell_78 ?_
          refine zj_goto 83 d_M_cell_79 rfl ?_
          refine zj_iastore d_M_cell_83 (fun u13 => ?_)
          refine zj_iconst 1 d_M_cell_84 (by decide) ?_
          exact zj_iret rfl rfl rfl rfl d_M_cell_85
        refine zj_iload_n d_M_cell_62 rfl ?_
        refine zj_i2b d_M_cell_63 ?_
        refine zj_goto 83 d_M_cell_64 rfl ?_
        refine zj_iastore d_M_cell_83 (fun u14 => ?_)
        refine zj_iconst 1 d_M_cell_84 (by decide) ?_
        exact zj_iret rfl rfl rfl rfl d_M_cell_85
      refine zj_bipush (-12) d_M_cell_40 (by decide) ?_
      exact zj_iret rfl rfl rfl rfl d_M_cell_42
    refine zj_bipush (-11) d_M_cell_19 (by decide) ?_
    exact zj_iret rfl rfl rfl rfl d_M_cell_21
  refine zj_bipush (-2) d_M_cell_7 (by decide) ?_
  exact zj_iret rfl rfl rfl rfl d_M_cell_9
def F_M_copy (u0 : zS) (this : Nat) (a1 : Int32) (a2 : Int32) (a3 : Int32) (a4 : Int32) (a5 : Int32) : Option (Int32 × zS) := (F_M_isSheet u0 a1).bind fun v1 => if v1 = 0 then (some ((-2), u0)) else ((F_M_isSheet u0 a3).bind fun v2 => if v2 = 0 then (some ((-2), u0)) else ((zgR u0 9 (some this) 49).bind fun v3 => (zaI u0 .int v3 a1).bind fun v4 => if v4 < 0 then (some ((-11), u0)) else ((zgR u0 9 (some this) 49).bind fun v5 => (zaI u0 .int v5 a3).bind fun v6 => if 0 ≤ v6 then ((zgR u0 9 (some this) 49).bind fun v7 => (zaI u0 .int v7 a1).bind fun v8 => (zgR u0 9 (some this) 49).bind fun v9 => (zaI u0 .int v9 a3).bind fun v10 => if v8 = v10 then (if a5 < 0 then (some ((-12), u0)) else (if a2 < 0 then (some ((-12), u0)) else (if a4 < 0 then (some ((-12), u0)) else ((zgR u0 9 (some this) 50).bind fun v11 => (zaI u0 .int v11 a1).bind fun v12 => if (v12 - a5) < a2 then (some ((-12), u0)) else ((zgR u0 9 (some this) 50).bind fun v13 => (zaI u0 .int v13 a3).bind fun v14 => if a4 ≤ (v14 - a5) then (zfix2 (fun (r15 : zS → Int32 → Option (Int32 × zS)) (u16 : zS) (x17 : Int32) => if a5 ≤ x17 then (zfix2 (fun (r18 : zS → Int32 → Option (Int32 × zS)) (u19 : zS) (x20 : Int32) => if a5 ≤ x20 then (some (a5, u19)) else ((zgR u19 9 (some this) 51).bind fun v21 => (zgR u19 9 (some this) 52).bind fun v22 => (zaI u19 .int v22 x20).bind fun v23 => (zsI u19 v21 ((((40 : Int32) * a3) + a4) + x20) v23).bind fun u24 => r18 u24 (x20 + 1))) zFU u16 0) else ((zgR u16 9 (some this) 52).bind fun v25 => (zgR u16 9 (some this) 51).bind fun v26 => (zaI u16 .int v26 ((((40 : Int32) * a1) + a2) + x17)).bind fun v27 => (zsI u16 v25 x17 v27).bind fun u28 => r15 u28 (x17 + 1))) zFU u0 0) else (some ((-12), u0))))))) else (some ((-13), u0))) else (some ((-11), u0)))))
set_option maxHeartbeats 4000000 in
set_option maxRecDepth 100000 in
theorem B_M_copy (g : zG) (d : Nat) {u0 : zS} {this : Nat} {a1 : Int32} {a2 : Int32} {a3 : Int32} {a4 : Int32} {a5 : Int32} {o : Int32 × zS} (h : F_M_copy u0 this a1 a2 a3 a4 a5 = some o) : zMt g zy_M_copy (d + 3) 0 0 [zr g (some this), .int a1, .int a2, .int a3, .int a4, .int a5] u0 (some (.int o.1)) o.2 := by
  refine zMt_of2 (ls := [some (zr g (some this)), some (.int a1), some (.int a2), some (.int a3), some (.int a4), some (.int a5), none]) 1 (by decide +kernel) (by simp [lg_sl, zr_cat, zcI, zcJ]) (by simp [zal, zr_cat, zcI, zcJ, List.replicate]) ?_
  revert h
  show zJ g zy_M_copy (d + 3) 0 0 zwI o 0 0 0 [some (zr g (some this)), some (.int a1), some (.int a2), some (.int a3), some (.int a4), some (.int a5), none] [] u0 (F_M_copy u0 this a1 a2 a3 a4 a5)
  unfold F_M_copy
  refine zj_iload_n d_M_copy_0 rfl ?_
  refine zj_cSIp [.int a1] zm_S_M_isSheet ml_M_339 (fun _ h => B_M_isSheet g (d) h) (Nat.le_refl _) ⟨Nat.zero_le _, Nat.zero_le _⟩ rfl rfl (by decide) d_M_copy_1 (fun v1 => ?_)
  refine zj_if_eq 14 d_M_copy_4 rfl (fun _ => ?_) (fun _ => ?_)
  · refine zj_bipush (-2) d_M_copy_14 (by decide) ?_
    exact zj_iret rfl rfl rfl rfl d_M_copy_16
  refine zj_iload_n d_M_copy_7 rfl ?_
  refine zj_cSIp [.int a3] zm_S_M_isSheet ml_M_339 (fun _ h => B_M_isSheet g (d) h) (Nat.le_refl _) ⟨Nat.zero_le _, Nat.zero_le _⟩ rfl rfl (by decide) d_M_copy_8 (fun v2 => ?_)
  refine zj_if_ne 17 d_M_copy_11 rfl (fun _ => ?_) (fun _ => ?_)
  · refine zj_aload_n d_M_copy_17 rfl ?_
    refine zj_getR fl_M_91 (fun _ _ _ _ => rfl) d_M_copy_18 (fun v3 => ?_)
    refine zj_iload_n d_M_copy_21 rfl ?_
    refine zj_iaload d_M_copy_22 (fun v4 => ?_)
    refine zj_if_lt 35 d_M_copy_23 rfl (fun _ => ?_) (fun _ => ?_)
    · refine zj_bipush (-11) d_M_copy_35 (by decide) ?_
      exact zj_iret rfl rfl rfl rfl d_M_copy_37
    refine zj_aload_n d_M_copy_26 rfl ?_
    refine zj_getR fl_M_91 (fun _ _ _ _ => rfl) d_M_copy_27 (fun v5 => ?_)
    refine zj_iload_n d_M_copy_30 rfl ?_
    refine zj_iaload d_M_copy_31 (fun v6 => ?_)
    refine zj_if_ge 38 d_M_copy_32 rfl (fun _ => ?_) (fun _ => ?_)
    · refine zj_aload_n d_M_copy_38 rfl ?_
      refine zj_getR fl_M_91 (fun _ _ _ _ => rfl) d_M_copy_39 (fun v7 => ?_)
      refine zj_iload_n d_M_copy_42 rfl ?_
      refine zj_iaload d_M_copy_43 (fun v8 => ?_)
      refine zj_aload_n d_M_copy_44 rfl ?_
      refine zj_getR fl_M_91 (fun _ _ _ _ => rfl) d_M_copy_45 (fun v9 => ?_)
      refine zj_iload_n d_M_copy_48 rfl ?_
      refine zj_iaload d_M_copy_49 (fun v10 => ?_)
      refine zj_icmp_eq 56 d_M_copy_50 rfl (fun _ => ?_) (fun _ => ?_)
      · refine zj_iload d_M_copy_56 rfl ?_
        refine zj_if_lt 97 d_M_copy_58 rfl (fun _ => ?_) (fun _ => ?_)
        · refine zj_bipush (-12) d_M_copy_97 (by decide) ?_
          exact zj_iret rfl rfl rfl rfl d_M_copy_99
        refine zj_iload_n d_M_copy_61 rfl ?_
        refine zj_if_lt 97 d_M_copy_62 rfl (fun _ => ?_) (fun _ => ?_)
        · refine zj_bipush (-12) d_M_copy_97 (by decide) ?_
          exact zj_iret rfl rfl rfl rfl d_M_copy_99
        refine zj_iload d_M_copy_65 rfl ?_
        refine zj_if_lt 97 d_M_copy_67 rfl (fun _ => ?_) (fun _ => ?_)
        · refine zj_bipush (-12) d_M_copy_97 (by decide) ?_
          exact zj_iret rfl rfl rfl rfl d_M_copy_99
        refine zj_iload_n d_M_copy_70 rfl ?_
        refine zj_aload_n d_M_copy_71 rfl ?_
        refine zj_getR fl_M_94 (fun _ _ _ _ => rfl) d_M_copy_72 (fun v11 => ?_)
        refine zj_iload_n d_M_copy_75 rfl ?_
        refine zj_iaload d_M_copy_76 (fun v12 => ?_)
        refine zj_iload d_M_copy_77 rfl ?_
        refine zj_isub d_M_copy_79 ?_
        refine zj_icmp_gt 97 d_M_copy_80 rfl (fun _ => ?_) (fun _ => ?_)
        · refine zj_bipush (-12) d_M_copy_97 (by decide) ?_
          exact zj_iret rfl rfl rfl rfl d_M_copy_99
        refine zj_iload d_M_copy_83 rfl ?_
        refine zj_aload_n d_M_copy_85 rfl ?_
        refine zj_getR fl_M_94 (fun _ _ _ _ => rfl) d_M_copy_86 (fun v13 => ?_)
        refine zj_iload_n d_M_copy_89 rfl ?_
        refine zj_iaload d_M_copy_90 (fun v14 => ?_)
        refine zj_iload d_M_copy_91 rfl ?_
        refine zj_isub d_M_copy_93 ?_
        refine zj_icmp_le 100 d_M_copy_94 rfl (fun _ => ?_) (fun _ => ?_)
        · refine zj_iconst 0 d_M_copy_100 (by decide) ?_
          refine zj_istore [some (zr g (some this)), some (.int a1), some (.int a2), some (.int a3), some (.int a4), some (.int a5), some (.int 0)] d_M_copy_101 (by decide) rfl rfl ?_
          refine zj_fix2 (fun u16 x17 => [some (zr g (some this)), some (.int a1), some (.int a2), some (.int a3), some (.int a4), some (.int a5), some (.int x17)]) (fun u16 x17 => u16) (fun r15 hr15 u16 x17 => ?_) u0 0
          refine zj_iload d_M_copy_103 rfl ?_
          refine zj_iload d_M_copy_105 rfl ?_
          refine zj_icmp_ge 137 d_M_copy_107 rfl (fun _ => ?_) (fun _ => ?_)
          · refine zj_iconst 0 d_M_copy_137 (by decide) ?_
            refine zj_istore [some (zr g (some this)), some (.int a1), some (.int a2), some (.int a3), some (.int a4), some (.int a5), some (.int 0)] d_M_copy_138 (by decide) rfl rfl ?_
            refine zj_cut [some (zr g (some this)), none, none, some (.int a3), some (.int a4), some (.int a5), some (.int 0)] ⟨rfl, ⟨rfl, ⟨rfl, ⟨rfl, ⟨rfl, trivial⟩⟩⟩⟩⟩ ?_
            refine zj_fix2 (fun u19 x20 => [some (zr g (some this)), none, none, some (.int a3), some (.int a4), some (.int a5), some (.int x20)]) (fun u19 x20 => u19) (fun r18 hr18 u19 x20 => ?_) u16 0
            refine zj_iload d_M_copy_140 rfl ?_
            refine zj_iload d_M_copy_142 rfl ?_
            refine zj_icmp_ge 175 d_M_copy_144 rfl (fun _ => ?_) (fun _ => ?_)
            · refine zj_iload d_M_copy_175 rfl ?_
              exact zj_iret rfl rfl rfl rfl d_M_copy_177
            refine zj_aload_n d_M_copy_147 rfl ?_
            refine zj_getR fl_M_97 (fun _ _ _ _ => rfl) d_M_copy_148 (fun v21 => ?_)
            refine zj_bipush 40 d_M_copy_151 (by decide) ?_
            refine zj_iload_n d_M_copy_153 rfl ?_
            refine zj_imul d_M_copy_154 ?_
            refine zj_iload d_M_copy_155 rfl ?_
            refine zj_iadd d_M_copy_157 ?_
            refine zj_iload d_M_copy_158 rfl ?_
            refine zj_iadd d_M_copy_160 ?_
            refine zj_aload_n d_M_copy_161 rfl ?_
            refine zj_getR fl_M_100 (fun _ _ _ _ => rfl) d_M_copy_162 (fun v22 => ?_)
            refine zj_iload d_M_copy_165 rfl ?_
            refine zj_iaload d_M_copy_167 (fun v23 => ?_)
            refine zj_iastore d_M_copy_168 (fun u24 => ?_)
            refine zj_iinc (v := (x20 + 1)) [some (zr g (some this)), none, none, some (.int a3), some (.int a4), some (.int a5), some (.int (x20 + 1))] d_M_copy_169 rfl rfl (by decide) rfl rfl ?_
            refine zj_goto 140 d_M_copy_172 rfl ?_
            exact hr18 u24 (x20 + 1)
          refine zj_aload_n d_M_copy_110 rfl ?_
          refine zj_getR fl_M_100 (fun _ _ _ _ => rfl) d_M_copy_111 (fun v25 => ?_)
          refine zj_iload d_M_copy_114 rfl ?_
          refine zj_aload_n d_M_copy_116 rfl ?_
          refine zj_getR fl_M_97 (fun _ _ _ _ => rfl) d_M_copy_117 (fun v26 => ?_)
          refine zj_bipush 40 d_M_copy_120 (by decide) ?_
          refine zj_iload_n d_M_copy_122 rfl ?_
          refine zj_imul d_M_copy_123 ?_
          refine zj_iload_n d_M_copy_124 rfl ?_
          refine zj_iadd d_M_copy_125 ?_
          refine zj_iload d_M_copy_126 rfl ?_
          refine zj_iadd d_M_copy_128 ?_
          refine zj_iaload d_M_copy_129 (fun v27 => ?_)
          refine zj_iastore d_M_copy_130 (fun u28 => ?_)
          refine zj_iinc (v := (x17 + 1)) [some (zr g (some this)), some (.int a1), some (.int a2), some (.int a3), some (.int a4), some (.int a5), some (.int (x17 + 1))] d_M_copy_131 rfl rfl (by decide) rfl rfl ?_
          refine zj_goto 103 d_M_copy_134 rfl ?_
          exact hr15 u28 (x17 + 1)
        refine zj_bipush (-12) d_M_copy_97 (by decide) ?_
        exact zj_iret rfl rfl rfl rfl d_M_copy_99
      refine zj_bipush (-13) d_M_copy_53 (by decide) ?_
      exact zj_iret rfl rfl rfl rfl d_M_copy_55
    refine zj_bipush (-11) d_M_copy_35 (by decide) ?_
    exact zj_iret rfl rfl rfl rfl d_M_copy_37
  refine zj_bipush (-2) d_M_copy_14 (by decide) ?_
  exact zj_iret rfl rfl rfl rfl d_M_copy_16
def F_M_costOf (u0 : zS) (this : Nat) (a1 : Int32) (a2 : Int32) : Option (Int32 × zS) := (zob u0 9 (some this)).bind fun q3 => (F_M_says u0 q3 1 a1 a2).bind <| zk fun v1 u2 => (F_M_held u2 v1 1 99).bind fun v4 => some (v4, u2)
set_option maxHeartbeats 4000000 in
set_option maxRecDepth 100000 in
theorem B_M_costOf (g : zG) (d : Nat) {u0 : zS} {this : Nat} {a1 : Int32} {a2 : Int32} {o : Int32 × zS} (h : F_M_costOf u0 this a1 a2 = some o) : zMt g zy_M_costOf (d + 3) 0 0 [zr g (some this), .int a1, .int a2] u0 (some (.int o.1)) o.2 := by
  refine zMt_of2 (ls := [some (zr g (some this)), some (.int a1), some (.int a2)]) 0 (by decide +kernel) (by simp [lg_sl, zr_cat, zcI, zcJ]) (by simp [zal, zr_cat, zcI, zcJ, List.replicate]) ?_
  revert h
  show zJ g zy_M_costOf (d + 3) 0 0 zwI o 0 0 0 [some (zr g (some this)), some (.int a1), some (.int a2)] [] u0 (F_M_costOf u0 this a1 a2)
  unfold F_M_costOf
  refine zj_aload_n d_M_costOf_0 rfl ?_
  refine zj_iconst 1 d_M_costOf_1 (by decide) ?_
  refine zj_iload_n d_M_costOf_2 rfl ?_
  refine zj_iload_n d_M_costOf_3 rfl ?_
  refine zj_cVI (ci := 9) (T := zT9) (N := 53) [.int 1, .int a1, .int a2] zm_V_M_says ml_M_260 rfl (fun _ _ h => B_M_says g (d) h) (Nat.le_refl _) ⟨Nat.zero_le _, Nat.zero_le _⟩ rfl rfl (by decide) d_M_costOf_4 (fun v1 u2 => ?_)
  refine zj_iconst 1 d_M_costOf_7 (by decide) ?_
  refine zj_bipush 99 d_M_costOf_8 (by decide) ?_
  refine zj_cSIp [.int v1, .int 1, .int 99] zm_S_M_held ml_M_263 (fun _ h => B_M_held g (d + 1) h) (Nat.le_refl _) ⟨Nat.zero_le _, Nat.zero_le _⟩ rfl rfl (by decide) d_M_costOf_10 (fun v4 => ?_)
  exact zj_iret rfl rfl rfl rfl d_M_costOf_13
def F_M_countsOf (u0 : zS) (this : Nat) (a1 : Int32) : Option (Int32) := zfix2 (fun (r1 : Int32 → Int32 → Option (Int32)) (x2 : Int32) (x3 : Int32) => (zgI u0 9 (some this) 1).bind fun v4 => if v4 ≤ x3 then ((zgR u0 9 (some this) 5).bind fun v5 => (zaI u0 .int v5 a1).bind fun v6 => if v6 = 1 then (if x2 ≤ 3 then (some x2) else (some 3)) else if v6 = 2 then (some x2) else if v6 = 3 then (if x2 ≤ 3 then (some (x2 + 1)) else (some 4)) else if v6 = 4 then (some ((2 : Int32) * x2)) else if v6 = 5 then (some ((x2 + 1) / 2)) else (some x2)) else ((zob u0 9 (some this)).bind fun q13 => (F_M_canDo u0 q13 a1 x3).bind fun v12 => if v12 = 0 then (r1 (x2 + 0) (x3 + 1)) else (r1 (x2 + 1) (x3 + 1)))) zFU 0 0
set_option maxHeartbeats 4000000 in
set_option maxRecDepth 100000 in
theorem B_M_countsOf (g : zG) (d : Nat) {u0 : zS} {this : Nat} {a1 : Int32} {o : Int32} (h : F_M_countsOf u0 this a1 = some o) : zMt g zy_M_countsOf (d + 3) 0 0 [zr g (some this), .int a1] u0 (some (.int o)) u0 := by
  refine zMt_of2 (ls := [some (zr g (some this)), some (.int a1), none, none]) 2 (by decide +kernel) (by simp [lg_sl, zr_cat, zcI, zcJ]) (by simp [zal, zr_cat, zcI, zcJ, List.replicate]) ?_
  revert h
  show zJ g zy_M_countsOf (d + 3) 0 0 (zwIp u0) o 0 0 0 [some (zr g (some this)), some (.int a1), none, none] [] u0 (F_M_countsOf u0 this a1)
  unfold F_M_countsOf
  refine zj_iconst 0 d_M_countsOf_0 (by decide) ?_
  refine zj_istore_n [some (zr g (some this)), some (.int a1), some (.int 0), none] d_M_countsOf_1 (by decide) rfl rfl ?_
  refine zj_iconst 0 d_M_countsOf_2 (by decide) ?_
  refine zj_istore_n [some (zr g (some this)), some (.int a1), some (.int 0), some (.int 0)] d_M_countsOf_3 (by decide) rfl rfl ?_
  refine zj_fix2 (fun x2 x3 => [some (zr g (some this)), some (.int a1), some (.int x2), some (.int x3)]) (fun x2 x3 => u0) (fun r1 hr1 x2 x3 => ?_) 0 0
  refine zj_iload_n d_M_countsOf_4 rfl ?_
  refine zj_aload_n d_M_countsOf_5 rfl ?_
  refine zj_getI fl_M_106 (fun _ _ _ _ => rfl) d_M_countsOf_6 (fun v4 => ?_)
  refine zj_icmp_ge 35 d_M_countsOf_9 rfl (fun _ => ?_) (fun _ => ?_)
  · refine zj_aload_n d_M_countsOf_35 rfl ?_
    refine zj_getR fl_M_21 (fun _ _ _ _ => rfl) d_M_countsOf_36 (fun v5 => ?_)
    refine zj_iload_n d_M_countsOf_39 rfl ?_
    refine zj_iaload d_M_countsOf_40 (fun v6 => ?_)
    refine zj_tsw 1 (1) 76 d_M_countsOf_41 (by decide) (by decide) (by decide) rfl rfl (fun _ => ?_) (fun h7 => ?_)
    · refine zj_iload_n d_M_countsOf_76 rfl ?_
      refine zj_iconst 3 d_M_countsOf_77 (by decide) ?_
      refine zj_icmp_le 85 d_M_countsOf_78 rfl (fun _ => ?_) (fun _ => ?_)
      · refine zj_iload_n d_M_countsOf_85 rfl ?_
        exact zj_iret rfl rfl rfl rfl d_M_countsOf_86
      refine zj_iconst 3 d_M_countsOf_81 (by decide) ?_
      refine zj_goto 86 d_M_countsOf_82 rfl ?_
      exact zj_iret rfl rfl rfl rfl d_M_countsOf_86
    refine zj_tsw 2 (2) 110 d_M_countsOf_41 (by decide) (by decide) (by decide) rfl rfl (fun _ => ?_) (fun h8 => ?_)
    · refine zj_iload_n d_M_countsOf_110 rfl ?_
      exact zj_iret rfl rfl rfl rfl d_M_countsOf_111
    refine zj_tsw 3 (3) 87 d_M_countsOf_41 (by decide) (by decide) (by decide) rfl rfl (fun _ => ?_) (fun h9 => ?_)
    · refine zj_iload_n d_M_countsOf_87 rfl ?_
      refine zj_iconst 3 d_M_countsOf_88 (by decide) ?_
      refine zj_icmp_le 96 d_M_countsOf_89 rfl (fun _ => ?_) (fun _ => ?_)
      · refine zj_iload_n d_M_countsOf_96 rfl ?_
        refine zj_iconst 1 d_M_countsOf_97 (by decide) ?_
        refine zj_iadd d_M_countsOf_98 ?_
        exact zj_iret rfl rfl rfl rfl d_M_countsOf_99
      refine zj_iconst 4 d_M_countsOf_92 (by decide) ?_
      refine zj_goto 99 d_M_countsOf_93 rfl ?_
      exact zj_iret rfl rfl rfl rfl d_M_countsOf_99
    refine zj_tsw 4 (4) 100 d_M_countsOf_41 (by decide) (by decide) (by decide) rfl rfl (fun _ => ?_) (fun h10 => ?_)
    · refine zj_iconst 2 d_M_countsOf_100 (by decide) ?_
      refine zj_iload_n d_M_countsOf_101 rfl ?_
      refine zj_imul d_M_countsOf_102 ?_
      exact zj_iret rfl rfl rfl rfl d_M_countsOf_103
    refine zj_tsw 5 (5) 104 d_M_countsOf_41 (by decide) (by decide) (by decide) rfl rfl (fun _ => ?_) (fun h11 => ?_)
    · refine zj_iload_n d_M_countsOf_104 rfl ?_
      refine zj_iconst 1 d_M_countsOf_105 (by decide) ?_
      refine zj_iadd d_M_countsOf_106 ?_
      refine zj_iconst 2 d_M_countsOf_107 (by decide) ?_
      refine zj_idiv d_M_countsOf_108 (by decide) ?_
      exact zj_iret rfl rfl rfl rfl d_M_countsOf_109
    refine zj_tswD 110 d_M_countsOf_41 (by have e0 := lv_neT h7 (show (1 : Int32).toInt = 1 by decide); have e1 := lv_neT h8 (show (2 : Int32).toInt = 2 by decide); have e2 := lv_neT h9 (show (3 : Int32).toInt = 3 by decide); have e3 := lv_neT h10 (show (4 : Int32).toInt = 4 by decide); have e4 := lv_neT h11 (show (5 : Int32).toInt = 5 by decide); omega) rfl ?_
    refine zj_iload_n d_M_countsOf_110 rfl ?_
    exact zj_iret rfl rfl rfl rfl d_M_countsOf_111
  refine zj_iload_n d_M_countsOf_12 rfl ?_
  refine zj_aload_n d_M_countsOf_13 rfl ?_
  refine zj_iload_n d_M_countsOf_14 rfl ?_
  refine zj_iload_n d_M_countsOf_15 rfl ?_
  refine zj_cVIp (ci := 9) (T := zT9) (N := 53) [.int a1, .int x3] zm_V_M_canDo ml_M_147 rfl (fun _ _ h => B_M_canDo g (d) h) (Nat.le_refl _) ⟨Nat.zero_le _, Nat.zero_le _⟩ rfl rfl (by simp [zcI, zcJ]) d_M_countsOf_16 (fun v12 => ?_)
  refine zj_if_eq 26 d_M_countsOf_19 rfl (fun _ => ?_) (fun _ => ?_)
  · refine zj_iconst 0 d_M_countsOf_26 (by decide) ?_
    refine zj_iadd d_M_countsOf_27 ?_
    refine zj_istore_n [some (zr g (some this)), some (.int a1), some (.int (x2 + 0)), some (.int x3)] d_M_countsOf_28 (by decide) rfl rfl ?_
    refine zj_iinc (v := (x3 + 1)) [some (zr g (some this)), some (.int a1), some (.int (x2 + 0)), some (.int (x3 + 1))] d_M_countsOf_29 rfl rfl (by decide) rfl rfl ?_
    refine zj_goto 4 d_M_countsOf_32 rfl ?_
    exact hr1 (x2 + 0) (x3 + 1)
  refine zj_iconst 1 d_M_countsOf_22 (by decide) ?_
  refine zj_goto 27 d_M_countsOf_23 rfl ?_
  refine zj_iadd d_M_countsOf_27 ?_
  refine zj_istore_n [some (zr g (some this)), some (.int a1), some (.int (x2 + 1)), some (.int x3)] d_M_countsOf_28 (by decide) rfl rfl ?_
  refine zj_iinc (v := (x3 + 1)) [some (zr g (some this)), some (.int a1), some (.int (x2 + 1)), some (.int (x3 + 1))] d_M_countsOf_29 rfl rfl (by decide) rfl rfl ?_
  refine zj_goto 4 d_M_countsOf_32 rfl ?_
  exact hr1 (x2 + 1) (x3 + 1)
