def F_X_offerLessons (u0 : zS) (this : Nat) : Option (zS) := zfix2 (fun (r1 : zS → Int32 → Option (zS)) (u2 : zS) (x3 : Int32) => (zgI u2 8 (some this) 2).bind fun v4 => if v4 ≤ x3 then (some u2) else (zfix2 (fun (r5 : zS → Int32 → Option (zS)) (u6 : zS) (x7 : Int32) => (zgR u6 8 (some this) 0).bind fun v8 => (zgI u6 2 v8 0).bind fun v9 => if v9 ≤ x7 then (r1 u6 (x3 + 1)) else ((zgR u6 8 (some this) 1).bind fun v10 => (zaR u6 "PostsFilled$Person" v10 x3).bind fun v11 => (zob u6 3 v11).bind fun q13 => (F_Person_isBarred u6 q13 x7).bind fun v12 => if v12 = 0 then ((zgR u6 8 (some this) 1).bind fun v14 => (zaR u6 "PostsFilled$Person" v14 x3).bind fun v15 => (zgR u6 8 (some this) 0).bind fun v16 => (zob u6 3 v15).bind fun q18 => (F_Person_can u6 q18 x7 v16).bind fun v17 => if v17 = 0 then ((zgR u6 8 (some this) 10).bind fun v19 => (zgR u6 8 (some this) 1).bind fun v20 => (zaR u6 "PostsFilled$Person" v20 x3).bind fun v21 => (zob u6 8 (some this)).bind fun q24 => (F_X_costOf u6 q24 v21 x7).bind <| zk fun v22 u23 => (zgR u23 8 (some this) 8).bind fun v25 => (zob u23 1 v25).bind fun q27 => (F_Cover_helpedBy u23 q27 x3 x7).bind fun v26 => (zob u23 0 v19).bind fun q30 => (F_Course_offer u23 q30 (((10 : Int32) * x3) + x7) v22 v26).bind fun u29 => r5 u29 (x7 + 1)) else (r5 u6 (x7 + 1))) else (r5 u6 (x7 + 1)))) zFU u2 0)) zFU u0 0
set_option maxHeartbeats 4000000 in
set_option maxRecDepth 100000 in
theorem B_X_offerLessons (g : zG) (d : Nat) {u0 : zS} {this : Nat} {o : zS} (h : F_X_offerLessons u0 this = some o) : zMt g zy_X_offerLessons (d + 5) 0 0 [zr g (some this)] u0 none o := by
  refine zMt_of2 (ls := [some (zr g (some this)), none, none]) 2 (by decide +kernel) (by simp [lg_sl, zr_cat, zcI, zcJ]) (by simp [zal, zr_cat, zcI, zcJ, List.replicate]) ?_
  revert h
  show zJ g zy_X_offerLessons (d + 5) 0 0 zwV o 0 0 0 [some (zr g (some this)), none, none] [] u0 (F_X_offerLessons u0 this)
  unfold F_X_offerLessons
  refine zj_iconst 0 d_X_offerLessons_0 (by decide) ?_
  refine zj_istore_n [some (zr g (some this)), some (.int 0), none] d_X_offerLessons_1 (by decide) rfl rfl ?_
  refine zj_fix2 (fun u2 x3 => [some (zr g (some this)), some (.int x3), none]) (fun u2 x3 => u2) (fun r1 hr1 u2 x3 => ?_) u0 0
  refine zj_iload_n d_X_offerLessons_2 rfl ?_
  refine zj_aload_n d_X_offerLessons_3 rfl ?_
  refine zj_getI fl_X_22 (fun _ _ _ _ => rfl) d_X_offerLessons_4 (fun v4 => ?_)
  refine zj_icmp_ge 98 d_X_offerLessons_7 rfl (fun _ => ?_) (fun _ => ?_)
  · exact zj_vret rfl rfl rfl rfl d_X_offerLessons_98
  refine zj_iconst 0 d_X_offerLessons_10 (by decide) ?_
  refine zj_istore_n [some (zr g (some this)), some (.int x3), some (.int 0)] d_X_offerLessons_11 (by decide) rfl rfl ?_
  refine zj_fix2 (fun u6 x7 => [some (zr g (some this)), some (.int x3), some (.int x7)]) (fun u6 x7 => u6) (fun r5 hr5 u6 x7 => ?_) u2 0
  refine zj_iload_n d_X_offerLessons_12 rfl ?_
  refine zj_aload_n d_X_offerLessons_13 rfl ?_
  refine zj_getR fl_X_10 (fun _ _ _ _ => rfl) d_X_offerLessons_14 (fun v8 => ?_)
  refine zj_getI fl_X_254 (fun _ _ _ _ => rfl) d_X_offerLessons_17 (fun v9 => ?_)
  refine zj_icmp_ge 92 d_X_offerLessons_20 rfl (fun _ => ?_) (fun _ => ?_)
  · refine zj_iinc (v := (x3 + 1)) [some (zr g (some this)), some (.int (x3 + 1)), some (.int x7)] d_X_offerLessons_92 rfl rfl (by decide) rfl rfl ?_
    refine zj_goto 2 d_X_offerLessons_95 rfl ?_
    refine zj_cut [some (zr g (some this)), some (.int (x3 + 1)), none] ⟨rfl, ⟨rfl, trivial⟩⟩ ?_
    exact hr1 u6 (x3 + 1)
  refine zj_aload_n d_X_offerLessons_23 rfl ?_
  refine zj_getR fl_X_18 (fun _ _ _ _ => rfl) d_X_offerLessons_24 (fun v10 => ?_)
  refine zj_iload_n d_X_offerLessons_27 rfl ?_
  refine zj_aaload 4 rfl d_X_offerLessons_28 (fun v11 => ?_)
  refine zj_iload_n d_X_offerLessons_29 rfl ?_
  refine zj_cVIp (ci := 3) (T := zT3) (N := 10) [.int x7] zm_V_Person_isBarred ml_X_135 rfl (fun _ _ h => B_Person_isBarred g (d + 3) h) (Nat.le_refl _) ⟨Nat.zero_le _, Nat.zero_le _⟩ rfl rfl (by decide) d_X_offerLessons_30 (fun v12 => ?_)
  refine zj_if_ne 86 d_X_offerLessons_33 rfl (fun _ => ?_) (fun _ => ?_)
  · refine zj_iinc (v := (x7 + 1)) [some (zr g (some this)), some (.int x3), some (.int (x7 + 1))] d_X_offerLessons_86 rfl rfl (by decide) rfl rfl ?_
    refine zj_goto 12 d_X_offerLessons_89 rfl ?_
    exact hr5 u6 (x7 + 1)
  refine zj_aload_n d_X_offerLessons_36 rfl ?_
  refine zj_getR fl_X_18 (fun _ _ _ _ => rfl) d_X_offerLessons_37 (fun v14 => ?_)
  refine zj_iload_n d_X_offerLessons_40 rfl ?_
  refine zj_aaload 4 rfl d_X_offerLessons_41 (fun v15 => ?_)
  refine zj_iload_n d_X_offerLessons_42 rfl ?_
  refine zj_aload_n d_X_offerLessons_43 rfl ?_
  refine zj_getR fl_X_10 (fun _ _ _ _ => rfl) d_X_offerLessons_44 (fun v16 => ?_)
  refine zj_cVIp (ci := 3) (T := zT3) (N := 10) [.int x7, zr g v16] zm_V_Person_can ml_X_170 rfl (fun _ _ h => B_Person_can g (d) h) (Nat.le_refl _) ⟨Nat.zero_le _, Nat.zero_le _⟩ rfl rfl (by decide) d_X_offerLessons_47 (fun v17 => ?_)
  refine zj_if_ne 86 d_X_offerLessons_50 rfl (fun _ => ?_) (fun _ => ?_)
  · refine zj_iinc (v := (x7 + 1)) [some (zr g (some this)), some (.int x3), some (.int (x7 + 1))] d_X_offerLessons_86 rfl rfl (by decide) rfl rfl ?_
    refine zj_goto 12 d_X_offerLessons_89 rfl ?_
    exact hr5 u6 (x7 + 1)
  refine zj_aload_n d_X_offerLessons_53 rfl ?_
  refine zj_getR fl_X_59 (fun _ _ _ _ => rfl) d_X_offerLessons_54 (fun v19 => ?_)
  refine zj_bipush 10 d_X_offerLessons_57 (by decide) ?_
  refine zj_iload_n d_X_offerLessons_59 rfl ?_
  refine zj_imul d_X_offerLessons_60 ?_
  refine zj_iload_n d_X_offerLessons_61 rfl ?_
  refine zj_iadd d_X_offerLessons_62 ?_
  refine zj_aload_n d_X_offerLessons_63 rfl ?_
  refine zj_aload_n d_X_offerLessons_64 rfl ?_
  refine zj_getR fl_X_18 (fun _ _ _ _ => rfl) d_X_offerLessons_65 (fun v20 => ?_)
  refine zj_iload_n d_X_offerLessons_68 rfl ?_
  refine zj_aaload 4 rfl d_X_offerLessons_69 (fun v21 => ?_)
  refine zj_iload_n d_X_offerLessons_70 rfl ?_
  refine zj_cVI (ci := 8) (T := zT8) (N := 16) [zr g v21, .int x7] zm_V_X_costOf ml_X_178 rfl (fun _ _ h => B_X_costOf g (d) h) (Nat.le_refl _) ⟨Nat.zero_le _, Nat.zero_le _⟩ rfl rfl (by simp [zr_cat, zcI, zcJ]) d_X_offerLessons_71 (fun v22 u23 => ?_)
  refine zj_aload_n d_X_offerLessons_74 rfl ?_
  refine zj_getR fl_X_45 (fun _ _ _ _ => rfl) d_X_offerLessons_75 (fun v25 => ?_)
  refine zj_iload_n d_X_offerLessons_78 rfl ?_
  refine zj_iload_n d_X_offerLessons_79 rfl ?_
  refine zj_cVJp (ci := 1) (T := zT1) (N := 3) [.int x3, .int x7] zm_V_Cover_helpedBy ml_X_371 rfl (fun _ _ h => B_Cover_helpedBy g (d + 3) h) (Nat.le_refl _) ⟨Nat.zero_le _, Nat.zero_le _⟩ rfl rfl (by simp [zr_cat, zcI, zcJ]) d_X_offerLessons_80 (fun v26 => ?_)
  refine zj_cVU (ci := 0) (T := zT0) (N := 7) [.int (((10 : Int32) * x3) + x7), .int v22, .long v26] zm_V_Course_offer ml_X_374 rfl (fun _ _ h => B_Course_offer g (d + 3) h) (Nat.le_refl _) ⟨Nat.zero_le _, Nat.zero_le _⟩ rfl rfl (by decide) d_X_offerLessons_83 (fun u29 => ?_)
  refine zj_iinc (v := (x7 + 1)) [some (zr g (some this)), some (.int x3), some (.int (x7 + 1))] d_X_offerLessons_86 rfl rfl (by decide) rfl rfl ?_
  refine zj_goto 12 d_X_offerLessons_89 rfl ?_
  exact hr5 u29 (x7 + 1)
def F_X_wrongAt (u0 : zS) (this : Nat) (a1 : Int32) (a2 : Int32) (a3 : Int32) : Option (Int32) := if a2 = (-1) then ((zgR u0 8 (some this) 0).bind fun v8 => (zob u0 2 v8).bind fun q10 => (F_Office_needs u0 q10 a1).bind fun v9 => if v9 = 0 then (some (-1)) else (some ((30 : Int32) + a1))) else ((zob u0 8 (some this)).bind fun q2 => (F_X_isPerson u0 q2 a2).bind fun v1 => if v1 = 0 then (some ((10 : Int32) + a1)) else (if ((a3 >>> (a2 &&& 31)) &&& 1) = 0 then (some ((10 : Int32) + a1)) else ((zgR u0 8 (some this) 1).bind fun v3 => (zaR u0 "PostsFilled$Person" v3 a2).bind fun v4 => (zgR u0 8 (some this) 0).bind fun v5 => (zob u0 3 v4).bind fun q7 => (F_Person_can u0 q7 a1 v5).bind fun v6 => if v6 = 0 then (some ((20 : Int32) + a1)) else (some (-1)))))
set_option maxHeartbeats 4000000 in
set_option maxRecDepth 100000 in
theorem B_X_wrongAt (g : zG) (d : Nat) {u0 : zS} {this : Nat} {a1 : Int32} {a2 : Int32} {a3 : Int32} {o : Int32} (h : F_X_wrongAt u0 this a1 a2 a3 = some o) : zMt g zy_X_wrongAt (d + 5) 0 0 [zr g (some this), .int a1, .int a2, .int a3] u0 (some (.int o)) u0 := by
  refine zMt_of2 (ls := [some (zr g (some this)), some (.int a1), some (.int a2), some (.int a3)]) 0 (by decide +kernel) (by simp [lg_sl, zr_cat, zcI, zcJ]) (by simp [zal, zr_cat, zcI, zcJ, List.replicate]) ?_
  revert h
  show zJ g zy_X_wrongAt (d + 5) 0 0 (zwIp u0) o 0 0 0 [some (zr g (some this)), some (.int a1), some (.int a2), some (.int a3)] [] u0 (F_X_wrongAt u0 this a1 a2 a3)
  unfold F_X_wrongAt
  refine zj_iload_n d_X_wrongAt_0 rfl ?_
  refine zj_iconst (-1) d_X_wrongAt_1 (by decide) ?_
  refine zj_icmp_ne 25 d_X_wrongAt_2 rfl (fun _ => ?_) (fun _ => ?_)
  · refine zj_aload_n d_X_wrongAt_25 rfl ?_
    refine zj_iload_n d_X_wrongAt_26 rfl ?_
    refine zj_cVIp (ci := 8) (T := zT8) (N := 16) [.int a2] zm_V_X_isPerson ml_X_129 rfl (fun _ _ h => B_X_isPerson g (d + 3) h) (Nat.le_refl _) ⟨Nat.zero_le _, Nat.zero_le _⟩ rfl rfl (by decide) d_X_wrongAt_27 (fun v1 => ?_)
    refine zj_if_eq 41 d_X_wrongAt_30 rfl (fun _ => ?_) (fun _ => ?_)
    · refine zj_bipush 10 d_X_wrongAt_41 (by decide) ?_
      refine zj_iload_n d_X_wrongAt_43 rfl ?_
      refine zj_iadd d_X_wrongAt_44 ?_
      exact zj_iret rfl rfl rfl rfl d_X_wrongAt_45
    refine zj_iload_n d_X_wrongAt_33 rfl ?_
    refine zj_iload_n d_X_wrongAt_34 rfl ?_
    refine zj_ishr d_X_wrongAt_35 ?_
    refine zj_iconst 1 d_X_wrongAt_36 (by decide) ?_
    refine zj_iand d_X_wrongAt_37 ?_
    refine zj_if_ne 46 d_X_wrongAt_38 rfl (fun _ => ?_) (fun _ => ?_)
    · refine zj_aload_n d_X_wrongAt_46 rfl ?_
      refine zj_getR fl_X_18 (fun _ _ _ _ => rfl) d_X_wrongAt_47 (fun v3 => ?_)
      refine zj_iload_n d_X_wrongAt_50 rfl ?_
      refine zj_aaload 4 rfl d_X_wrongAt_51 (fun v4 => ?_)
      refine zj_iload_n d_X_wrongAt_52 rfl ?_
      refine zj_aload_n d_X_wrongAt_53 rfl ?_
      refine zj_getR fl_X_10 (fun _ _ _ _ => rfl) d_X_wrongAt_54 (fun v5 => ?_)
      refine zj_cVIp (ci := 3) (T := zT3) (N := 10) [.int a1, zr g v5] zm_V_Person_can ml_X_170 rfl (fun _ _ h => B_Person_can g (d) h) (Nat.le_refl _) ⟨Nat.zero_le _, Nat.zero_le _⟩ rfl rfl (by decide) d_X_wrongAt_57 (fun v6 => ?_)
      refine zj_if_eq 67 d_X_wrongAt_60 rfl (fun _ => ?_) (fun _ => ?_)
      · refine zj_bipush 20 d_X_wrongAt_67 (by decide) ?_
        refine zj_iload_n d_X_wrongAt_69 rfl ?_
        refine zj_iadd d_X_wrongAt_70 ?_
        exact zj_iret rfl rfl rfl rfl d_X_wrongAt_71
      refine zj_iconst (-1) d_X_wrongAt_63 (by decide) ?_
      refine zj_goto 71 d_X_wrongAt_64 rfl ?_
      exact zj_iret rfl rfl rfl rfl d_X_wrongAt_71
    refine zj_bipush 10 d_X_wrongAt_41 (by decide) ?_
    refine zj_iload_n d_X_wrongAt_43 rfl ?_
    refine zj_iadd d_X_wrongAt_44 ?_
    exact zj_iret rfl rfl rfl rfl d_X_wrongAt_45
  refine zj_aload_n d_X_wrongAt_5 rfl ?_
  refine zj_getR fl_X_10 (fun _ _ _ _ => rfl) d_X_wrongAt_6 (fun v8 => ?_)
  refine zj_iload_n d_X_wrongAt_9 rfl ?_
  refine zj_cVIp (ci := 2) (T := zT2) (N := 4) [.int a1] zm_V_Office_needs ml_X_378 rfl (fun _ _ h => B_Office_needs g (d + 3) h) (Nat.le_refl _) ⟨Nat.zero_le _, Nat.zero_le _⟩ rfl rfl (by decide) d_X_wrongAt_10 (fun v9 => ?_)
  refine zj_if_eq 23 d_X_wrongAt_13 rfl (fun _ => ?_) (fun _ => ?_)
  · refine zj_iconst (-1) d_X_wrongAt_23 (by decide) ?_
    exact zj_iret rfl rfl rfl rfl d_X_wrongAt_24
  refine zj_bipush 30 d_X_wrongAt_16 (by decide) ?_
  refine zj_iload_n d_X_wrongAt_18 rfl ?_
  refine zj_iadd d_X_wrongAt_19 ?_
  refine zj_goto 24 d_X_wrongAt_20 rfl ?_
  exact zj_iret rfl rfl rfl rfl d_X_wrongAt_24
def F_Person_counts (u0 : zS) (this : Nat) (a1 : Option Nat) : Option (Int32) := zfix2 (fun (r1 : Int32 → Int32 → Option (Int32)) (x2 : Int32) (x3 : Int32) => (zgI u0 2 a1 0).bind fun v4 => if v4 ≤ x3 then ((zgI u0 3 (some this) 0).bind fun v5 => if v5 = 1 then (some (zmin x2 3)) else if v5 = 2 then (some x2) else if v5 = 3 then (some ((zmin x2 3) + 1)) else if v5 = 4 then (some ((2 : Int32) * x2)) else if v5 = 5 then (some ((x2 + 1) / 2)) else (some x2)) else ((zob u0 3 (some this)).bind fun q12 => (F_Person_can u0 q12 x3 a1).bind fun v11 => if v11 = 0 then (r1 x2 (x3 + 1)) else (r1 (x2 + 1) (x3 + 1)))) zFU 0 0
set_option maxHeartbeats 4000000 in
set_option maxRecDepth 100000 in
theorem B_Person_counts (g : zG) (d : Nat) {u0 : zS} {this : Nat} {a1 : Option Nat} {o : Int32} (h : F_Person_counts u0 this a1 = some o) : zMt g zy_Person_counts (d + 5) 0 0 [zr g (some this), zr g a1] u0 (some (.int o)) u0 := by
  refine zMt_of2 (ls := [some (zr g (some this)), some (zr g a1), none, none]) 2 (by decide +kernel) (by simp [lg_sl, zr_cat, zcI, zcJ]) (by simp [zal, zr_cat, zcI, zcJ, List.replicate]) ?_
  revert h
  show zJ g zy_Person_counts (d + 5) 0 0 (zwIp u0) o 0 0 0 [some (zr g (some this)), some (zr g a1), none, none] [] u0 (F_Person_counts u0 this a1)
  unfold F_Person_counts
  refine zj_iconst 0 d_Person_counts_0 (by decide) ?_
  refine zj_istore_n [some (zr g (some this)), some (zr g a1), some (.int 0), none] d_Person_counts_1 (by decide) (by simp [zNL, zr_cat]) rfl ?_
  refine zj_iconst 0 d_Person_counts_2 (by decide) ?_
  refine zj_istore_n [some (zr g (some this)), some (zr g a1), some (.int 0), some (.int 0)] d_Person_counts_3 (by decide) rfl rfl ?_
  refine zj_fix2 (fun x2 x3 => [some (zr g (some this)), some (zr g a1), some (.int x2), some (.int x3)]) (fun x2 x3 => u0) (fun r1 hr1 x2 x3 => ?_) 0 0
  refine zj_iload_n d_Person_counts_4 rfl ?_
  refine zj_aload_n d_Person_counts_5 rfl ?_
  refine zj_getI fl_Person_84 (fun _ _ _ _ => rfl) d_Person_counts_6 (fun v4 => ?_)
  refine zj_icmp_ge 30 d_Person_counts_9 rfl (fun _ => ?_) (fun _ => ?_)
  · refine zj_aload_n d_Person_counts_30 rfl ?_
    refine zj_getI fl_Person_9 (fun _ _ _ _ => rfl) d_Person_counts_31 (fun v5 => ?_)
    refine zj_tsw 1 (1) 68 d_Person_counts_34 (by decide) (by decide) (by decide) rfl rfl (fun _ => ?_) (fun h6 => ?_)
    · refine zj_iload_n d_Person_counts_68 rfl ?_
      refine zj_iconst 3 d_Person_counts_69 (by decide) ?_
      refine zj_mmin mtl_Person_91 mts_min mti_ mtc_min (by omega) ⟨Nat.zero_le _, Nat.zero_le _⟩ (by decide) d_Person_counts_70 ?_
      exact zj_iret rfl rfl rfl rfl d_Person_counts_73
    refine zj_tsw 2 (2) 92 d_Person_counts_34 (by decide) (by decide) (by decide) rfl rfl (fun _ => ?_) (fun h7 => ?_)
    · refine zj_iload_n d_Person_counts_92 rfl ?_
      exact zj_iret rfl rfl rfl rfl d_Person_counts_93
    refine zj_tsw 3 (3) 74 d_Person_counts_34 (by decide) (by decide) (by decide) rfl rfl (fun _ => ?_) (fun h8 => ?_)
    · refine zj_iload_n d_Person_counts_74 rfl ?_
      refine zj_iconst 3 d_Person_counts_75 (by decide) ?_
      refine zj_mmin mtl_Person_91 mts_min mti_ mtc_min (by omega) ⟨Nat.zero_le _, Nat.zero_le _⟩ (by decide) d_Person_counts_76 ?_
      refine zj_iconst 1 d_Person_counts_79 (by decide) ?_
      refine zj_iadd d_Person_counts_80 ?_
      exact zj_iret rfl rfl rfl rfl d_Person_counts_81
    refine zj_tsw 4 (4) 82 d_Person_counts_34 (by decide) (by decide) (by decide) rfl rfl (fun _ => ?_) (fun h9 => ?_)
    · refine zj_iconst 2 d_Person_counts_82 (by decide) ?_
      refine zj_iload_n d_Person_counts_83 rfl ?_
      refine zj_imul d_Person_counts_84 ?_
      exact zj_iret rfl rfl rfl rfl d_Person_counts_85
    refine zj_tsw 5 (5) 86 d_Person_counts_34 (by decide) (by decide) (by decide) rfl rfl (fun _ => ?_) (fun h10 => ?_)
    · refine zj_iload_n d_Person_counts_86 rfl ?_
      refine zj_iconst 1 d_Person_counts_87 (by decide) ?_
      refine zj_iadd d_Person_counts_88 ?_
      refine zj_iconst 2 d_Person_counts_89 (by decide) ?_
      refine zj_idiv d_Person_counts_90 (by decide) ?_
      exact zj_iret rfl rfl rfl rfl d_Person_counts_91
    refine zj_tswD 92 d_Person_counts_34 (by have e0 := lv_neT h6 (show (1 : Int32).toInt = 1 by decide); have e1 := lv_neT h7 (show (2 : Int32).toInt = 2 by decide); have e2 := lv_neT h8 (show (3 : Int32).toInt = 3 by decide); have e3 := lv_neT h9 (show (4 : Int32).toInt = 4 by decide); have e4 := lv_neT h10 (show (5 : Int32).toInt = 5 by decide); omega) rfl ?_
    refine zj_iload_n d_Person_counts_92 rfl ?_
    exact zj_iret rfl rfl rfl rfl d_Person_counts_93
  refine zj_aload_n d_Person_counts_12 rfl ?_
  refine zj_iload_n d_Person_counts_13 rfl ?_
  refine zj_aload_n d_Person_counts_14 rfl ?_
  refine zj_cVIp (ci := 3) (T := zT3) (N := 10) [.int x3, zr g a1] zm_V_Person_can ml_Person_87 rfl (fun _ _ h => B_Person_can g (d) h) (Nat.le_refl _) ⟨Nat.zero_le _, Nat.zero_le _⟩ rfl rfl (by decide) d_Person_counts_15 (fun v11 => ?_)
  refine zj_if_eq 24 d_Person_counts_18 rfl (fun _ => ?_) (fun _ => ?_)
  · refine zj_iinc (v := (x3 + 1)) [some (zr g (some this)), some (zr g a1), some (.int x2), some (.int (x3 + 1))] d_Person_counts_24 rfl rfl (by decide) rfl rfl ?_
    refine zj_goto 4 d_Person_counts_27 rfl ?_
    exact hr1 x2 (x3 + 1)
  refine zj_iinc (v := (x2 + 1)) [some (zr g (some this)), some (zr g a1), some (.int (x2 + 1)), some (.int x3)] d_Person_counts_21 rfl rfl (by decide) (by simp [zNL, zr_cat]) rfl ?_
  refine zj_iinc (v := (x3 + 1)) [some (zr g (some this)), some (zr g a1), some (.int (x2 + 1)), some (.int (x3 + 1))] d_Person_counts_24 rfl rfl (by decide) rfl rfl ?_
  refine zj_goto 4 d_Person_counts_27 rfl ?_
  exact hr1 (x2 + 1) (x3 + 1)
def F_M_not (rec : Nat → zS → Nat → Option zS) (u0 : zS) (this : Nat) : Option (zS) := (zob u0 9 (some this)).bind fun q2 => (F_M_isKey u0 q2 5).bind fun v1 => if v1 = 0 then ((zob u0 9 (some this)).bind fun q5 => (rec 2 u0 q5 ).bind fun u4 => (zob u4 9 (some this)).bind fun q7 => (F_M_isSign u4 q7 60).bind fun v6 => if v6 = 0 then ((zob u4 9 (some this)).bind fun q19 => (F_M_isSign u4 q19 61).bind fun v18 => if v18 = 0 then (some u4) else ((zgI u4 9 (some this) 25).bind fun v20 => (zob u4 9 (some this)).bind fun q23 => (F_M_next u4 q23 ).bind fun u22 => (zob u22 9 (some this)).bind fun q26 => (rec 2 u22 q26 ).bind fun u25 => (zob u25 9 (some this)).bind fun q29 => (F_M_lay u25 q29 ((-100 : Int32) - v20)).bind fun u28 => some u28)) else ((zgI u4 9 (some this) 25).bind fun v8 => (zob u4 9 (some this)).bind fun q11 => (F_M_next u4 q11 ).bind fun u10 => (zob u10 9 (some this)).bind fun q14 => (rec 2 u10 q14 ).bind fun u13 => (zob u13 9 (some this)).bind fun q17 => (F_M_lay u13 q17 ((-100 : Int32) - v8)).bind fun u16 => some u16)) else ((zob u0 9 (some this)).bind fun q32 => (F_M_opens u0 q32 ).bind <| zk fun v30 u31 => if v30 = 0 then (some u31) else ((zob u31 9 (some this)).bind fun q35 => (rec 3 u31 q35 ).bind fun u34 => (zob u34 9 (some this)).bind fun q38 => (F_M_lay u34 q38 (-101)).bind fun u37 => (zgI u37 9 (some this) 26).bind fun v39 => (zpI u37 9 (some this) 26 (v39 - 1)).bind fun u40 => some u40))
set_option maxHeartbeats 4000000 in
set_option maxRecDepth 100000 in
theorem B_M_not (g : zG) (d : Nat) (hdd : 8 ≤ d) {rec : Nat → zS → Nat → Option zS} (hrec_one : ∀ {u0 : zS} {this : Nat} {o : zS}, rec 0 u0 this = some o → zMt g zy_M_one d 0 0 [zr g (some this)] u0 none o) (hrec_term : ∀ {u0 : zS} {this : Nat} {o : zS}, rec 1 u0 this = some o → zMt g zy_M_term d 0 0 [zr g (some this)] u0 none o) (hrec_sum : ∀ {u0 : zS} {this : Nat} {o : zS}, rec 2 u0 this = some o → zMt g zy_M_sum d 0 0 [zr g (some this)] u0 none o) (hrec_not : ∀ {u0 : zS} {this : Nat} {o : zS}, rec 3 u0 this = some o → zMt g zy_M_not d 0 0 [zr g (some this)] u0 none o) (hrec_both : ∀ {u0 : zS} {this : Nat} {o : zS}, rec 4 u0 this = some o → zMt g zy_M_both d 0 0 [zr g (some this)] u0 none o) (hrec_either : ∀ {u0 : zS} {this : Nat} {o : zS}, rec 5 u0 this = some o → zMt g zy_M_either d 0 0 [zr g (some this)] u0 none o) {u0 : zS} {this : Nat} {o : zS} (h : F_M_not rec u0 this = some o) : zMt g zy_M_not (d + 1) 0 0 [zr g (some this)] u0 none o := by
  refine zMt_of2 (ls := [some (zr g (some this)), none]) 1 (by decide +kernel) (by simp [lg_sl, zr_cat, zcI, zcJ]) (by simp [zal, zr_cat, zcI, zcJ, List.replicate]) ?_
  revert h
  show zJ g zy_M_not (d + 1) 0 0 zwV o 0 0 0 [some (zr g (some this)), none] [] u0 (F_M_not rec u0 this)
  unfold F_M_not
  refine zj_aload_n d_M_not_0 rfl ?_
  refine zj_iconst 5 d_M_not_1 (by decide) ?_
  refine zj_cVIp (ci := 9) (T := zT9) (N := 53) [.int 5] zm_V_M_isKey ml_M_241 rfl (fun _ _ h => B_M_isKey g (d - 1) h) (by omega) ⟨Nat.zero_le _, Nat.zero_le _⟩ rfl rfl (by decide) d_M_not_2 (fun v1 => ?_)
  refine zj_if_eq 36 d_M_not_5 rfl (fun _ => ?_) (fun _ => ?_)
  · refine zj_aload_n d_M_not_36 rfl ?_
    refine zj_cVU (ci := 9) (T := zT9) (N := 53) [] zm_V_M_sum ml_M_247 rfl (fun _ _ h => hrec_sum h) (Nat.le_refl _) ⟨Nat.zero_le _, Nat.zero_le _⟩ rfl rfl (by decide) d_M_not_37 (fun u4 => ?_)
    refine zj_aload_n d_M_not_40 rfl ?_
    refine zj_bipush 60 d_M_not_41 (by decide) ?_
    refine zj_cVIp (ci := 9) (T := zT9) (N := 53) [.int 60] zm_V_M_isSign ml_M_225 rfl (fun _ _ h => B_M_isSign g (d - 1) h) (by omega) ⟨Nat.zero_le _, Nat.zero_le _⟩ rfl rfl (by decide) d_M_not_43 (fun v6 => ?_)
    refine zj_if_ne 58 d_M_not_46 rfl (fun _ => ?_) (fun _ => ?_)
    · refine zj_aload_n d_M_not_58 rfl ?_
      refine zj_getI fl_M_193 (fun _ _ _ _ => rfl) d_M_not_59 (fun v8 => ?_)
      refine zj_istore_n [some (zr g (some this)), some (.int v8)] d_M_not_62 (by decide) rfl rfl ?_
      refine zj_aload_n d_M_not_63 rfl ?_
      refine zj_cVU (ci := 9) (T := zT9) (N := 53) [] zm_V_M_next ml_M_218 rfl (fun _ _ h => B_M_next g (d - 3) h) (by omega) ⟨Nat.zero_le _, Nat.zero_le _⟩ rfl rfl (by decide) d_M_not_64 (fun u10 => ?_)
      refine zj_aload_n d_M_not_67 rfl ?_
      refine zj_cVU (ci := 9) (T := zT9) (N := 53) [] zm_V_M_sum ml_M_247 rfl (fun _ _ h => hrec_sum h) (Nat.le_refl _) ⟨Nat.zero_le _, Nat.zero_le _⟩ rfl rfl (by decide) d_M_not_68 (fun u13 => ?_)
      refine zj_aload_n d_M_not_71 rfl ?_
      refine zj_bipush (-100) d_M_not_72 (by decide) ?_
      refine zj_iload_n d_M_not_74 rfl ?_
      refine zj_isub d_M_not_75 ?_
      refine zj_cVU (ci := 9) (T := zT9) (N := 53) [.int ((-100 : Int32) - v8)] zm_V_M_lay ml_M_221 rfl (fun _ _ h => B_M_lay g (d - 1) h) (by omega) ⟨Nat.zero_le _, Nat.zero_le _⟩ rfl rfl (by decide) d_M_not_76 (fun u16 => ?_)
      exact zj_vret rfl rfl rfl rfl d_M_not_79
    refine zj_aload_n d_M_not_49 rfl ?_
    refine zj_bipush 61 d_M_not_50 (by decide) ?_
    refine zj_cVIp (ci := 9) (T := zT9) (N := 53) [.int 61] zm_V_M_isSign ml_M_225 rfl (fun _ _ h => B_M_isSign g (d - 1) h) (by omega) ⟨Nat.zero_le _, Nat.zero_le _⟩ rfl rfl (by decide) d_M_not_52 (fun v18 => ?_)
    refine zj_if_eq 79 d_M_not_55 rfl (fun _ => ?_) (fun _ => ?_)
    · exact zj_vret rfl rfl rfl rfl d_M_not_79
    refine zj_aload_n d_M_not_58 rfl ?_
    refine zj_getI fl_M_193 (fun _ _ _ _ => rfl) d_M_not_59 (fun v20 => ?_)
    refine zj_istore_n [some (zr g (some this)), some (.int v20)] d_M_not_62 (by decide) rfl rfl ?_
    refine zj_aload_n d_M_not_63 rfl ?_
    refine zj_cVU (ci := 9) (T := zT9) (N := 53) [] zm_V_M_next ml_M_218 rfl (fun _ _ h => B_M_next g (d - 3) h) (by omega) ⟨Nat.zero_le _, Nat.zero_le _⟩ rfl rfl (by decide) d_M_not_64 (fun u22 => ?_)
    refine zj_aload_n d_M_not_67 rfl ?_
    refine zj_cVU (ci := 9) (T := zT9) (N := 53) [] zm_V_M_sum ml_M_247 rfl (fun _ _ h => hrec_sum h) (Nat.le_refl _) ⟨Nat.zero_le _, Nat.zero_le _⟩ rfl rfl (by decide) d_M_not_68 (fun u25 => ?_)
    refine zj_aload_n d_M_not_71 rfl ?_
    refine zj_bipush (-100) d_M_not_72 (by decide) ?_
    refine zj_iload_n d_M_not_74 rfl ?_
    refine zj_isub d_M_not_75 ?_
    refine zj_cVU (ci := 9) (T := zT9) (N := 53) [.int ((-100 : Int32) - v20)] zm_V_M_lay ml_M_221 rfl (fun _ _ h => B_M_lay g (d - 1) h) (by omega) ⟨Nat.zero_le _, Nat.zero_le _⟩ rfl rfl (by decide) d_M_not_76 (fun u28 => ?_)
    exact zj_vret rfl rfl rfl rfl d_M_not_79
  refine zj_aload_n d_M_not_8 rfl ?_
  refine zj_cVI (ci := 9) (T := zT9) (N := 53) [] zm_V_M_opens ml_M_228 rfl (fun _ _ h => B_M_opens g (d - 4) h) (by omega) ⟨Nat.zero_le _, Nat.zero_le _⟩ rfl rfl (by decide) d_M_not_9 (fun v30 u31 => ?_)
  refine zj_if_eq 35 d_M_not_12 rfl (fun _ => ?_) (fun _ => ?_)
  · exact zj_vret rfl rfl rfl rfl d_M_not_35
  refine zj_aload_n d_M_not_15 rfl ?_
  refine zj_cVU (ci := 9) (T := zT9) (N := 53) [] zm_V_M_not ml_M_244 rfl (fun _ _ h => hrec_not h) (Nat.le_refl _) ⟨Nat.zero_le _, Nat.zero_le _⟩ rfl rfl (by decide) d_M_not_16 (fun u34 => ?_)
  refine zj_aload_n d_M_not_19 rfl ?_
  refine zj_bipush (-101) d_M_not_20 (by decide) ?_
  refine zj_cVU (ci := 9) (T := zT9) (N := 53) [.int (-101)] zm_V_M_lay ml_M_221 rfl (fun _ _ h => B_M_lay g (d - 1) h) (by omega) ⟨Nat.zero_le _, Nat.zero_le _⟩ rfl rfl (by decide) d_M_not_22 (fun u37 => ?_)
  refine zj_aload_n d_M_not_25 rfl ?_
  refine zj_dup d_M_not_26 (zr_cat _ _) ?_
  refine zj_getI fl_M_212 (fun _ _ _ _ => rfl) d_M_not_27 (fun v39 => ?_)
  refine zj_iconst 1 d_M_not_30 (by decide) ?_
  refine zj_isub d_M_not_31 ?_
  refine zj_putI fl_M_212 (fun _ _ _ _ => rfl) ⟨rfl, rfl⟩ d_M_not_32 (fun u40 => ?_)
  exact zj_vret rfl rfl rfl rfl d_M_not_35
def F_M_one (rec : Nat → zS → Nat → Option zS) (u0 : zS) (this : Nat) : Option (zS) := (zgI u0 9 (some this) 27).bind fun v1 => if v1 = 0 then ((zgI u0 9 (some this) 24).bind fun v2 => if v2 = 1 then ((zgI u0 9 (some this) 24).bind fun v3 => if v3 = 1 then ((zgI u0 9 (some this) 25).bind fun v11 => (zob u0 9 (some this)).bind fun q14 => (F_M_lay u0 q14 v11).bind fun u13 => (zob u13 9 (some this)).bind fun q17 => (F_M_next u13 q17 ).bind fun u16 => some u16) else ((zgI u0 9 (some this) 25).bind fun v4 => (zob u0 9 (some this)).bind fun q7 => (F_M_lay u0 q7 ((-1 : Int32) - v4)).bind fun u6 => (zob u6 9 (some this)).bind fun q10 => (F_M_next u6 q10 ).bind fun u9 => some u9)) else ((zgI u0 9 (some this) 24).bind fun v18 => if v18 = 2 then ((zgI u0 9 (some this) 24).bind fun v74 => if v74 = 1 then ((zgI u0 9 (some this) 25).bind fun v82 => (zob u0 9 (some this)).bind fun q85 => (F_M_lay u0 q85 v82).bind fun u84 => (zob u84 9 (some this)).bind fun q88 => (F_M_next u84 q88 ).bind fun u87 => some u87) else ((zgI u0 9 (some this) 25).bind fun v75 => (zob u0 9 (some this)).bind fun q78 => (F_M_lay u0 q78 ((-1 : Int32) - v75)).bind fun u77 => (zob u77 9 (some this)).bind fun q81 => (F_M_next u77 q81 ).bind fun u80 => some u80)) else ((zob u0 9 (some this)).bind fun q20 => (F_M_isSign u0 q20 45).bind fun v19 => if v19 = 0 then ((zob u0 9 (some this)).bind fun q46 => (F_M_isSign u0 q46 40).bind fun v45 => if v45 = 0 then ((zob u0 9 (some this)).bind fun q73 => (F_M_wrong u0 q73 ).bind fun u72 => some u72) else ((zob u0 9 (some this)).bind fun q49 => (F_M_opens u0 q49 ).bind <| zk fun v47 u48 => if v47 = 0 then (some u48) else (if v19 = 0 then ((zob u48 9 (some this)).bind fun q52 => (rec 5 u48 q52 ).bind fun u51 => (zob u51 9 (some this)).bind fun q54 => (F_M_isSign u51 q54 41).bind fun v53 => if v53 = 0 then ((zob u51 9 (some this)).bind fun q62 => (F_M_wrong u51 q62 ).bind fun u61 => some u61) else ((zgI u51 9 (some this) 26).bind fun v55 => (zpI u51 9 (some this) 26 (v55 - 1)).bind fun u56 => (zob u56 9 (some this)).bind fun q59 => (F_M_next u56 q59 ).bind fun u58 => some u58)) else ((zob u48 9 (some this)).bind fun q65 => (rec 0 u48 q65 ).bind fun u64 => (zob u64 9 (some this)).bind fun q68 => (F_M_lay u64 q68 (-100)).bind fun u67 => (zgI u67 9 (some this) 26).bind fun v69 => (zpI u67 9 (some this) 26 (v69 - 1)).bind fun u70 => some u70)))) else ((zob u0 9 (some this)).bind fun q23 => (F_M_opens u0 q23 ).bind <| zk fun v21 u22 => if v21 = 0 then (some u22) else (if v19 = 0 then ((zob u22 9 (some this)).bind fun q26 => (rec 5 u22 q26 ).bind fun u25 => (zob u25 9 (some this)).bind fun q28 => (F_M_isSign u25 q28 41).bind fun v27 => if v27 = 0 then ((zob u25 9 (some this)).bind fun q36 => (F_M_wrong u25 q36 ).bind fun u35 => some u35) else ((zgI u25 9 (some this) 26).bind fun v29 => (zpI u25 9 (some this) 26 (v29 - 1)).bind fun u30 => (zob u30 9 (some this)).bind fun q33 => (F_M_next u30 q33 ).bind fun u32 => some u32)) else ((zob u22 9 (some this)).bind fun q39 => (rec 0 u22 q39 ).bind fun u38 => (zob u38 9 (some this)).bind fun q42 => (F_M_lay u38 q42 (-100)).bind fun u41 => (zgI u41 9 (some this) 26).bind fun v43 => (zpI u41 9 (some this) 26 (v43 - 1)).bind fun u44 => some u44)))))) else (some u0)
set_option maxHeartbeats 4000000 in
set_option maxRecDepth 100000 in
theorem B_M_one (g : zG) (d : Nat) (hdd : 8 ≤ d) {rec : Nat → zS → Nat → Option zS} (hrec_one : ∀ {u0 : zS} {this : Nat} {o : zS}, rec 0 u0 this = some o → zMt g zy_M_one d 0 0 [zr g (some this)] u0 none o) (hrec_term : ∀ {u0 : zS} {this : Nat} {o : zS}, rec 1 u0 this = some o → zMt g zy_M_term d 0 0 [zr g (some this)] u0 none o) (hrec_sum : ∀ {u0 : zS} {this : Nat} {o : zS}, rec 2 u0 this = some o → zMt g zy_M_sum d 0 0 [zr g (some this)] u0 none o) (hrec_not : ∀ {u0 : zS} {this : Nat} {o : zS}, rec 3 u0 this = some o → zMt g zy_M_not d 0 0 [zr g (some this)] u0 none o) (hrec_both : ∀ {u0 : zS} {this : Nat} {o : zS}, rec 4 u0 this = some o → zMt g zy_M_both d 0 0 [zr g (some this)] u0 none o) (hrec_either : ∀ {u0 : zS} {this : Nat} {o : zS}, rec 5 u0 this = some o → zMt g zy_M_either d 0 0 [zr g (some this)] u0 none o) {u0 : zS} {this : Nat} {o : zS} (h : F_M_one rec u0 this = some o) : zMt g zy_M_one (d + 1) 0 0 [zr g (some this)] u0 none o := by
  refine zMt_of2 (ls := [some (zr g (some this)), none]) 1 (by decide +kernel) (by simp [lg_sl, zr_cat, zcI, zcJ]) (by simp [zal, zr_cat, zcI, zcJ, List.replicate]) ?_
  revert h
  show zJ g zy_M_one (d + 1) 0 0 zwV o 0 0 0 [some (zr g (some this)), none] [] u0 (F_M_one rec u0 this)
  unfold F_M_one
  refine zj_aload_n d_M_one_0 rfl ?_
  refine zj_getI fl_M_202 (fun _ _ _ _ => rfl) d_M_one_1 (fun v1 => ?_)
  refine zj_if_eq 8 d_M_one_4 rfl (fun _ => ?_) (fun _ => ?_)
  · refine zj_aload_n d_M_one_8 rfl ?_
    refine zj_getI fl_M_183 (fun _ _ _ _ => rfl) d_M_one_9 (fun v2 => ?_)
    refine zj_iconst 1 d_M_one_12 (by decide) ?_
    refine zj_icmp_eq 24 d_M_one_13 rfl (fun _ => ?_) (fun _ => ?_)
    · refine zj_aload_n d_M_one_24 rfl ?_
      refine zj_aload_n d_M_one_25 rfl ?_
      refine zj_getI fl_M_183 (fun _ _ _ _ => rfl) d_M_one_26 (fun v3 => ?_)
      refine zj_iconst 1 d_M_one_29 (by decide) ?_
      refine zj_icmp_ne 40 d_M_one_30 rfl (fun _ => ?_) (fun _ => ?_)
      · refine zj_iconst (-1) d_M_one_40 (by decide) ?_
        refine zj_aload_n d_M_one_41 rfl ?_
        refine zj_getI fl_M_193 (fun _ _ _ _ => rfl) d_M_one_42 (fun v4 => ?_)
        refine zj_isub d_M_one_45 ?_
        refine zj_cVU (ci := 9) (T := zT9) (N := 53) [.int ((-1 : Int32) - v4)] zm_V_M_lay ml_M_221 rfl (fun _ _ h => B_M_lay g (d - 1) h) (by omega) ⟨Nat.zero_le _, Nat.zero_le _⟩ rfl rfl (by decide) d_M_one_46 (fun u6 => ?_)
        refine zj_aload_n d_M_one_49 rfl ?_
        refine zj_cVU (ci := 9) (T := zT9) (N := 53) [] zm_V_M_next ml_M_218 rfl (fun _ _ h => B_M_next g (d - 3) h) (by omega) ⟨Nat.zero_le _, Nat.zero_le _⟩ rfl rfl (by decide) d_M_one_50 (fun u9 => ?_)
        exact zj_vret rfl rfl rfl rfl d_M_one_53
      refine zj_aload_n d_M_one_33 rfl ?_
      refine zj_getI fl_M_193 (fun _ _ _ _ => rfl) d_M_one_34 (fun v11 => ?_)
      refine zj_goto 46 d_M_one_37 rfl ?_
      refine zj_cVU (ci := 9) (T := zT9) (N := 53) [.int v11] zm_V_M_lay ml_M_221 rfl (fun _ _ h => B_M_lay g (d - 1) h) (by omega) ⟨Nat.zero_le _, Nat.zero_le _⟩ rfl rfl (by decide) d_M_one_46 (fun u13 => ?_)
      refine zj_aload_n d_M_one_49 rfl ?_
      refine zj_cVU (ci := 9) (T := zT9) (N := 53) [] zm_V_M_next ml_M_218 rfl (fun _ _ h => B_M_next g (d - 3) h) (by omega) ⟨Nat.zero_le _, Nat.zero_le _⟩ rfl rfl (by decide) d_M_one_50 (fun u16 => ?_)
      exact zj_vret rfl rfl rfl rfl d_M_one_53
    refine zj_aload_n d_M_one_16 rfl ?_
    refine zj_getI fl_M_183 (fun _ _ _ _ => rfl) d_M_one_17 (fun v18 => ?_)
    refine zj_iconst 2 d_M_one_20 (by decide) ?_
    refine zj_icmp_ne 54 d_M_one_21 rfl (fun _ => ?_) (fun _ => ?_)
    · refine zj_aload_n d_M_one_54 rfl ?_
      refine zj_bipush 45 d_M_one_55 (by decide) ?_
      refine zj_cVIp (ci := 9) (T := zT9) (N := 53) [.int 45] zm_V_M_isSign ml_M_225 rfl (fun _ _ h => B_M_isSign g (d - 1) h) (by omega) ⟨Nat.zero_le _, Nat.zero_le _⟩ rfl rfl (by decide) d_M_one_57 (fun v19 => ?_)
      refine zj_istore_n [some (zr g (some this)), some (.int v19)] d_M_one_60 (by decide) rfl rfl ?_
      refine zj_iload_n d_M_one_61 rfl ?_
      refine zj_if_ne 79 d_M_one_62 rfl (fun _ => ?_) (fun _ => ?_)
      · refine zj_aload_n d_M_one_79 rfl ?_
        refine zj_cVI (ci := 9) (T := zT9) (N := 53) [] zm_V_M_opens ml_M_228 rfl (fun _ _ h => B_M_opens g (d - 4) h) (by omega) ⟨Nat.zero_le _, Nat.zero_le _⟩ rfl rfl (by decide) d_M_one_80 (fun v21 u22 => ?_)
        refine zj_if_ne 87 d_M_one_83 rfl (fun _ => ?_) (fun _ => ?_)
        · refine zj_iload_n d_M_one_87 rfl ?_
          refine zj_if_eq 112 d_M_one_88 rfl (fun _ => ?_) (fun _ => ?_)
          · refine zj_aload_n d_M_one_112 rfl ?_
            refine zj_cVU (ci := 9) (T := zT9) (N := 53) [] zm_V_M_either ml_M_235 rfl (fun _ _ h => hrec_either h) (Nat.le_refl _) ⟨Nat.zero_le _, Nat.zero_le _⟩ rfl rfl (by decide) d_M_one_113 (fun u25 => ?_)
            refine zj_aload_n d_M_one_116 rfl ?_
            refine zj_bipush 41 d_M_one_117 (by decide) ?_
            refine zj_cVIp (ci := 9) (T := zT9) (N := 53) [.int 41] zm_V_M_isSign ml_M_225 rfl (fun _ _ h => B_M_isSign g (d - 1) h) (by omega) ⟨Nat.zero_le _, Nat.zero_le _⟩ rfl rfl (by decide) d_M_one_119 (fun v27 => ?_)
            refine zj_if_ne 130 d_M_one_122 rfl (fun _ => ?_) (fun _ => ?_)
            · refine zj_aload_n d_M_one_130 rfl ?_
              refine zj_dup d_M_one_131 (zr_cat _ _) ?_
              refine zj_getI fl_M_212 (fun _ _ _ _ => rfl) d_M_one_132 (fun v29 => ?_)
              refine zj_iconst 1 d_M_one_135 (by decide) ?_
              refine zj_isub d_M_one_136 ?_
              refine zj_putI fl_M_212 (fun _ _ _ _ => rfl) ⟨rfl, rfl⟩ d_M_one_137 (fun u30 => ?_)
              refine zj_aload_n d_M_one_140 rfl ?_
              refine zj_cVU (ci := 9) (T := zT9) (N := 53) [] zm_V_M_next ml_M_218 rfl (fun _ _ h => B_M_next g (d - 3) h) (by omega) ⟨Nat.zero_le _, Nat.zero_le _⟩ rfl rfl (by decide) d_M_one_141 (fun u32 => ?_)
              exact zj_vret rfl rfl rfl rfl d_M_one_144
            refine zj_aload_n d_M_one_125 rfl ?_
            refine zj_cVU (ci := 9) (T := zT9) (N := 53) [] zm_V_M_wrong ml_M_215 rfl (fun _ _ h => B_M_wrong g (d - 1) h) (by omega) ⟨Nat.zero_le _, Nat.zero_le _⟩ rfl rfl (by decide) d_M_one_126 (fun u35 => ?_)
            exact zj_vret rfl rfl rfl rfl d_M_one_129
          refine zj_aload_n d_M_one_91 rfl ?_
          refine zj_cVU (ci := 9) (T := zT9) (N := 53) [] zm_V_M_one ml_M_232 rfl (fun _ _ h => hrec_one h) (Nat.le_refl _) ⟨Nat.zero_le _, Nat.zero_le _⟩ rfl rfl (by decide) d_M_one_92 (fun u38 => ?_)
          refine zj_aload_n d_M_one_95 rfl ?_
          refine zj_bipush (-100) d_M_one_96 (by decide) ?_
          refine zj_cVU (ci := 9) (T := zT9) (N := 53) [.int (-100)] zm_V_M_lay ml_M_221 rfl (fun _ _ h => B_M_lay g (d - 1) h) (by omega) ⟨Nat.zero_le _, Nat.zero_le _⟩ rfl rfl (by decide) d_M_one_98 (fun u41 => ?_)
          refine zj_aload_n d_M_one_101 rfl ?_
          refine zj_dup d_M_one_102 (zr_cat _ _) ?_
          refine zj_getI fl_M_212 (fun _ _ _ _ => rfl) d_M_one_103 (fun v43 => ?_)
          refine zj_iconst 1 d_M_one_106 (by decide) ?_
          refine zj_isub d_M_one_107 ?_
          refine zj_putI fl_M_212 (fun _ _ _ _ => rfl) ⟨rfl, rfl⟩ d_M_one_108 (fun u44 => ?_)
          exact zj_vret rfl rfl rfl rfl d_M_one_111
        exact zj_vret rfl rfl rfl rfl d_M_one_86
      refine zj_aload_n d_M_one_65 rfl ?_
      refine zj_bipush 40 d_M_one_66 (by decide) ?_
      refine zj_cVIp (ci := 9) (T := zT9) (N := 53) [.int 40] zm_V_M_isSign ml_M_225 rfl (fun _ _ h => B_M_isSign g (d - 1) h) (by omega) ⟨Nat.zero_le _, Nat.zero_le _⟩ rfl rfl (by decide) d_M_one_68 (fun v45 => ?_)
      refine zj_if_ne 79 d_M_one_71 rfl (fun _ => ?_) (fun _ => ?_)
      · refine zj_aload_n d_M_one_79 rfl ?_
        refine zj_cVI (ci := 9) (T := zT9) (N := 53) [] zm_V_M_opens ml_M_228 rfl (fun _ _ h => B_M_opens g (d - 4) h) (by omega) ⟨Nat.zero_le _, Nat.zero_le _⟩ rfl rfl (by decide) d_M_one_80 (fun v47 u48 => ?_)
        refine zj_if_ne 87 d_M_one_83 rfl (fun _ => ?_) (fun _ => ?_)
        · refine zj_iload_n d_M_one_87 rfl ?_
          refine zj_if_eq 112 d_M_one_88 rfl (fun _ => ?_) (fun _ => ?_)
          · refine zj_aload_n d_M_one_112 rfl ?_
            refine zj_cVU (ci := 9) (T := zT9) (N := 53) [] zm_V_M_either ml_M_235 rfl (fun _ _ h => hrec_either h) (Nat.le_refl _) ⟨Nat.zero_le _, Nat.zero_le _⟩ rfl rfl (by decide) d_M_one_113 (fun u51 => ?_)
            refine zj_aload_n d_M_one_116 rfl ?_
            refine zj_bipush 41 d_M_one_117 (by decide) ?_
            refine zj_cVIp (ci := 9) (T := zT9) (N := 53) [.int 41] zm_V_M_isSign ml_M_225 rfl (fun _ _ h => B_M_isSign g (d - 1) h) (by omega) ⟨Nat.zero_le _, Nat.zero_le _⟩ rfl rfl (by decide) d_M_one_119 (fun v53 => ?_)
            refine zj_if_ne 130 d_M_one_122 rfl (fun _ => ?_) (fun _ => ?_)
            · refine zj_aload_n d_M_one_130 rfl ?_
              refine zj_dup d_M_one_131 (zr_cat _ _) ?_
              refine zj_getI fl_M_212 (fun _ _ _ _ => rfl) d_M_one_132 (fun v55 => ?_)
              refine zj_iconst 1 d_M_one_135 (by decide) ?_
              refine zj_isub d_M_one_136 ?_
              refine zj_putI fl_M_212 (fun _ _ _ _ => rfl) ⟨rfl, rfl⟩ d_M_one_137 (fun u56 => ?_)
              refine zj_aload_n d_M_one_140 rfl ?_
              refine zj_cVU (ci := 9) (T := zT9) (N := 53) [] zm_V_M_next ml_M_218 rfl (fun _ _ h => B_M_next g (d - 3) h) (by omega) ⟨Nat.zero_le _, Nat.zero_le _⟩ rfl rfl (by decide) d_M_one_141 (fun u58 => ?_)
              exact zj_vret rfl rfl rfl rfl d_M_one_144
            refine zj_aload_n d_M_one_125 rfl ?_
            refine zj_cVU (ci := 9) (T := zT9) (N := 53) [] zm_V_M_wrong ml_M_215 rfl (fun _ _ h => B_M_wrong g (d - 1) h) (by omega) ⟨Nat.zero_le _, Nat.zero_le _⟩ rfl rfl (by decide) d_M_one_126 (fun u61 => ?_)
            exact zj_vret rfl rfl rfl rfl d_M_one_129
          refine zj_aload_n d_M_one_91 rfl ?_
          refine zj_cVU (ci := 9) (T := zT9) (N := 53) [] zm_V_M_one ml_M_232 rfl (fun _ _ h => hrec_one h) (Nat.le_refl _) ⟨Nat.zero_le _, Nat.zero_le _⟩ rfl rfl (by decide) d_M_one_92 (fun u64 => ?_)
          refine zj_aload_n d_M_one_95 rfl ?_
          refine zj_bipush (-100) d_M_one_96 (by decide) ?_
          refine zj_cVU (ci := 9) (T := zT9) (N := 53) [.int (-100)] zm_V_M_lay ml_M_221 rfl (fun _ _ h => B_M_lay g (d - 1) h) (by omega) ⟨Nat.zero_le _, Nat.zero_le _⟩ rfl rfl (by decide) d_M_one_98 (fun u67 => ?_)
          refine zj_aload_n d_M_one_101 rfl ?_
          refine zj_dup d_M_one_102 (zr_cat _ _) ?_
          refine zj_getI fl_M_212 (fun _ _ _ _ => rfl) d_M_one_103 (fun v69 => ?_)
          refine zj_iconst 1 d_M_one_106 (by decide) ?_
          refine zj_isub d_M_one_107 ?_
          refine zj_putI fl_M_212 (fun _ _ _ _ => rfl) ⟨rfl, rfl⟩ d_M_one_108 (fun u70 => ?_)
          exact zj_vret rfl rfl rfl rfl d_M_one_111
        exact zj_vret rfl rfl rfl rfl d_M_one_86
      refine zj_aload_n d_M_one_74 rfl ?_
      refine zj_cVU (ci := 9) (T := zT9) (N := 53) [] zm_V_M_wrong ml_M_215 rfl (fun _ _ h => B_M_wrong g (d - 1) h) (by omega) ⟨Nat.zero_le _, Nat.zero_le _⟩ rfl rfl (by decide) d_M_one_75 (fun u72 => ?_)
      exact zj_vret rfl rfl rfl rfl d_M_one_78
    refine zj_aload_n d_M_one_24 rfl ?_
    refine zj_aload_n d_M_one_25 rfl ?_
    refine zj_getI fl_M_183 (fun _ _ _ _ => rfl) d_M_one_26 (fun v74 => ?_)
    refine zj_iconst 1 d_M_one_29 (by decide) ?_
    refine zj_icmp_ne 40 d_M_one_30 rfl (fun _ => ?_) (fun _ => ?_)
    · refine zj_iconst (-1) d_M_one_40 (by decide) ?_
      refine zj_aload_n d_M_one_41 rfl ?_
      refine zj_getI fl_M_193 (fun _ _ _ _ => rfl) d_M_one_42 (fun v75 => ?_)
      refine zj_isub d_M_one_45 ?_
      refine zj_cVU (ci := 9) (T := zT9) (N := 53) [.int ((-1 : Int32) - v75)] zm_V_M_lay ml_M_221 rfl (fun _ _ h => B_M_lay g (d - 1) h) (by omega) ⟨Nat.zero_le _, Nat.zero_le _⟩ rfl rfl (by decide) d_M_one_46 (fun u77 => ?_)
      refine zj_aload_n d_M_one_49 rfl ?_
      refine zj_cVU (ci := 9) (T := zT9) (N := 53) [] zm_V_M_next ml_M_218 rfl (fun _ _ h => B_M_next g (d - 3) h) (by omega) ⟨Nat.zero_le _, Nat.zero_le _⟩ rfl rfl (by decide) d_M_one_50 (fun u80 => ?_)
      exact zj_vret rfl rfl rfl rfl d_M_one_53
    refine zj_aload_n d_M_one_33 rfl ?_
    refine zj_getI fl_M_193 (fun _ _ _ _ => rfl) d_M_one_34 (fun v82 => ?_)
    refine zj_goto 46 d_M_one_37 rfl ?_
    refine zj_cVU (ci := 9) (T := zT9) (N := 53) [.int v82] zm_V_M_lay ml_M_221 rfl (fun _ _ h => B_M_lay g (d - 1) h) (by omega) ⟨Nat.zero_le _, Nat.zero_le _⟩ rfl rfl (by decide) d_M_one_46 (fun u84 => ?_)
    refine zj_aload_n d_M_one_49 rfl ?_
    refine zj_cVU (ci := 9) (T := zT9) (N := 53) [] zm_V_M_next ml_M_218 rfl (fun _ _ h => B_M_next g (d - 3) h) (by omega) ⟨Nat.zero_le _, Nat.zero_le _⟩ rfl rfl (by decide) d_M_one_50 (fun u87 => ?_)
    exact zj_vret rfl rfl rfl rfl d_M_one_53
  exact zj_vret rfl rfl rfl rfl d_M_one_7
def GM : Nat → Nat → zS → Nat → Option zS
  | 0 => fun _ _ _ => none
  | n + 1 => fun tag => match tag with
    | 0 => F_M_one (GM n)
    | 1 => F_M_term (GM n)
    | 2 => F_M_sum (GM n)
    | 3 => F_M_not (GM n)
    | 4 => F_M_both (GM n)
    | 5 => F_M_either (GM n)
    | _ => fun _ _ => none
theorem BG_all_GM (g : zG) (d : Nat) (hd : 8 ≤ d) : ∀ n : Nat, (∀ {u0 : zS} {this : Nat} {o : zS}, GM n 0 u0 this = some o → zMt g zy_M_one (n + d) 0 0 [zr g (some this)] u0 none o) ∧ (∀ {u0 : zS} {this : Nat} {o : zS}, GM n 1 u0 this = some o → zMt g zy_M_term (n + d) 0 0 [zr g (some this)] u0 none o) ∧ (∀ {u0 : zS} {this : Nat} {o : zS}, GM n 2 u0 this = some o → zMt g zy_M_sum (n + d) 0 0 [zr g (some this)] u0 none o) ∧ (∀ {u0 : zS} {this : Nat} {o : zS}, GM n 3 u0 this = some o → zMt g zy_M_not (n + d) 0 0 [zr g (some this)] u0 none o) ∧ (∀ {u0 : zS} {this : Nat} {o : zS}, GM n 4 u0 this = some o → zMt g zy_M_both (n + d) 0 0 [zr g (some this)] u0 none o) ∧ (∀ {u0 : zS} {this : Nat} {o : zS}, GM n 5 u0 this = some o → zMt g zy_M_either (n + d) 0 0 [zr g (some this)] u0 none o)
  | 0 => ⟨(fun h => nomatch h), (fun h => nomatch h), (fun h => nomatch h), (fun h => nomatch h), (fun h => nomatch h), (fun h => nomatch h)⟩
  | n + 1 => by
    obtain ⟨h0, h1, h2, h3, h4, h5⟩ := BG_all_GM g d hd n
    rw [show n + 1 + d = n + d + 1 by omega]
    exact ⟨fun h => B_M_one g (n + d) (by omega) h0 h1 h2 h3 h4 h5 h, fun h => B_M_term g (n + d) (by omega) h0 h1 h2 h3 h4 h5 h, fun h => B_M_sum g (n + d) (by omega) h0 h1 h2 h3 h4 h5 h, fun h => B_M_not g (n + d) (by omega) h0 h1 h2 h3 h4 h5 h, fun h => B_M_both g (n + d) (by omega) h0 h1 h2 h3 h4 h5 h, fun h => B_M_either g (n + d) (by omega) h0 h1 h2 h3 h4 h5 h⟩
theorem BG_M_one (g : zG) (d : Nat) {u0 : zS} {this : Nat} {o : zS} (h : GM 60 0 u0 this = some o) : zMt g zy_M_one (d + 70) 0 0 [zr g (some this)] u0 none o := by
  rw [show d + 70 = 60 + (d + 10) by omega]
  exact (BG_all_GM g (d + 10) (by omega) 60).1 h
theorem BG_M_term (g : zG) (d : Nat) {u0 : zS} {this : Nat} {o : zS} (h : GM 60 1 u0 this = some o) : zMt g zy_M_term (d + 70) 0 0 [zr g (some this)] u0 none o := by
  rw [show d + 70 = 60 + (d + 10) by omega]
  exact (BG_all_GM g (d + 10) (by omega) 60).2.1 h
theorem BG_M_sum (g : zG) (d : Nat) {u0 : zS} {this : Nat} {o : zS} (h : GM 60 2 u0 this = some o) : zMt g zy_M_sum (d + 70) 0 0 [zr g (some this)] u0 none o := by
  rw [show d + 70 = 60 + (d + 10) by omega]
  exact (BG_all_GM g (d + 10) (by omega) 60).2.2.1 h
theorem BG_M_not (g : zG) (d : Nat) {u0 : zS} {this : Nat} {o : zS} (h : GM 60 3 u0 this = some o) : zMt g zy_M_not (d + 70) 0 0 [zr g (some this)] u0 none o := by
  rw [show d + 70 = 60 + (d + 10) by omega]
  exact (BG_all_GM g (d + 10) (by omega) 60).2.2.2.1 h
theorem BG_M_both (g : zG) (d : Nat) {u0 : zS} {this : Nat} {o : zS} (h : GM 60 4 u0 this = some o) : zMt g zy_M_both (d + 70) 0 0 [zr g (some this)] u0 none o := by
  rw [show d + 70 = 60 + (d + 10) by omega]
  exact (BG_all_GM g (d + 10) (by omega) 60).2.2.2.2.1 h
theorem BG_M_either (g : zG) (d : Nat) {u0 : zS} {this : Nat} {o : zS} (h : GM 60 5 u0 this = some o) : zMt g zy_M_either (d + 70) 0 0 [zr g (some this)] u0 none o := by
  rw [show d + 70 = 60 + (d + 10) by omega]
  exact (BG_all_GM g (d + 10) (by omega) 60).2.2.2.2.2 h
def F_M_people (u0 : zS) (this : Nat) (a1 : Int32) (a2 : Int32) (a3 : Int32) (a4 : Int32) : Option (Int32 × zS) := (F_M_isSheet u0 a1).bind fun v1 => if v1 = 0 then (some ((-2), u0)) else ((F_M_in u0 ((a2 : Int32).toInt64) 0 2).bind fun v2 => if v2 = 0 then (some ((-2), u0)) else ((F_M_in u0 ((a4 : Int32).toInt64) 0 8).bind fun v3 => if v3 = 0 then (some ((-2), u0)) else ((zgR u0 9 (some this) 49).bind fun v4 => (zaI u0 .int v4 a1).bind fun v5 => if v5 < 0 then ((zgR u0 9 (some this) 49).bind fun v6 => (zaI u0 .int v6 a1).bind fun v7 => if 0 ≤ v7 then (zfix3 (fun (r8 : zS → Int32 → Int32 → Option (Int32 × zS)) (u9 : zS) (x10 : Int32) (x11 : Int32) => if a4 ≤ x11 then (some (x10, u9)) else (if a3 < 0 then (some ((-12), u9)) else ((zgR u9 9 (some this) 50).bind fun v12 => (zaI u9 .int v12 a1).bind fun v13 => if a3 ≤ ((v13 - 2) - ((2 : Int32) * x11)) then (zlet (((((40 : Int32) * a1) + a3) + ((2 : Int32) * x11)) : Int32) fun x14 => (zgR u9 9 (some this) 51).bind fun v15 => (zaI u9 .int v15 x14).bind fun v16 => (zgR u9 9 (some this) 51).bind fun v17 => (zaI u9 .int v17 (x14 + 1)).bind fun v18 => (zob u9 9 (some this)).bind fun q21 => (F_M_person u9 q21 v16 v18).bind <| zk fun v19 u20 => if v19 < 0 then (r8 u20 (x10 + 0) (x11 + 1)) else (r8 u20 (x10 + 1) (x11 + 1))) else (some ((-12), u9))))) zFU u0 0 0) else (some ((-11), u0))) else ((zgR u0 9 (some this) 49).bind fun v22 => (zaI u0 .int v22 a1).bind fun v23 => if v23 = a2 then ((zgR u0 9 (some this) 49).bind fun v24 => (zaI u0 .int v24 a1).bind fun v25 => if 0 ≤ v25 then (zfix3 (fun (r26 : zS → Int32 → Int32 → Option (Int32 × zS)) (u27 : zS) (x28 : Int32) (x29 : Int32) => if a4 ≤ x29 then (some (x28, u27)) else (if a3 < 0 then (some ((-12), u27)) else ((zgR u27 9 (some this) 50).bind fun v30 => (zaI u27 .int v30 a1).bind fun v31 => if a3 ≤ ((v31 - 2) - ((2 : Int32) * x29)) then (zlet (((((40 : Int32) * a1) + a3) + ((2 : Int32) * x29)) : Int32) fun x32 => (zgR u27 9 (some this) 51).bind fun v33 => (zaI u27 .int v33 x32).bind fun v34 => (zgR u27 9 (some this) 51).bind fun v35 => (zaI u27 .int v35 (x32 + 1)).bind fun v36 => (zob u27 9 (some this)).bind fun q39 => (F_M_person u27 q39 v34 v36).bind <| zk fun v37 u38 => if v37 < 0 then (r26 u38 (x28 + 0) (x29 + 1)) else (r26 u38 (x28 + 1) (x29 + 1))) else (some ((-12), u27))))) zFU u0 0 0) else (some ((-11), u0))) else (some ((-13), u0))))))
set_option maxHeartbeats 4000000 in
set_option maxRecDepth 100000 in
theorem B_M_people (g : zG) (d : Nat) {u0 : zS} {this : Nat} {a1 : Int32} {a2 : Int32} {a3 : Int32} {a4 : Int32} {o : Int32 × zS} (h : F_M_people u0 this a1 a2 a3 a4 = some o) : zMt g zy_M_people (d + 5) 0 0 [zr g (some this), .int a1, .int a2, .int a3, .int a4] u0 (some (.int o.1)) o.2 := by
  refine zMt_of2 (ls := [some (zr g (some this)), some (.int a1), some (.int a2), some (.int a3), some (.int a4), none, none, none]) 3 (by decide +kernel) (by simp [lg_sl, zr_cat, zcI, zcJ]) (by simp [zal, zr_cat, zcI, zcJ, List.replicate]) ?_
  revert h
  show zJ g zy_M_people (d + 5) 0 0 zwI o 0 0 0 [some (zr g (some this)), some (.int a1), some (.int a2), some (.int a3), some (.int a4), none, none, none] [] u0 (F_M_people u0 this a1 a2 a3 a4)
  unfold F_M_people
  refine zj_iload_n d_M_people_0 rfl ?_
  refine zj_cSIp [.int a1] zm_S_M_isSheet ml_M_339 (fun _ h => B_M_isSheet g (d + 2) h) (Nat.le_refl _) ⟨Nat.zero_le _, Nat.zero_le _⟩ rfl rfl (by decide) d_M_people_1 (fun v1 => ?_)
  refine zj_if_eq 32 d_M_people_4 rfl (fun _ => ?_) (fun _ => ?_)
  · refine zj_bipush (-2) d_M_people_32 (by decide) ?_
    exact zj_iret rfl rfl rfl rfl d_M_people_34
  refine zj_iload_n d_M_people_7 rfl ?_
  refine zj_i2l d_M_people_8 ?_
  refine zj_lconst 0 d_M_people_9 (by decide) ?_
  refine zj_ldc2 cl_M_323 d_M_people_10 ?_
  refine zj_cSIp [.long ((a2 : Int32).toInt64), .long 0, .long 2] zm_S_M_in ml_M_109 (fun _ h => B_M_in g (d + 3) h) (Nat.le_refl _) ⟨Nat.zero_le _, Nat.zero_le _⟩ rfl rfl (by decide) d_M_people_13 (fun v2 => ?_)
  refine zj_if_eq 32 d_M_people_16 rfl (fun _ => ?_) (fun _ => ?_)
  · refine zj_bipush (-2) d_M_people_32 (by decide) ?_
    exact zj_iret rfl rfl rfl rfl d_M_people_34
  refine zj_iload d_M_people_19 rfl ?_
  refine zj_i2l d_M_people_21 ?_
  refine zj_lconst 0 d_M_people_22 (by decide) ?_
  refine zj_ldc2 cl_M_159 d_M_people_23 ?_
  refine zj_cSIp [.long ((a4 : Int32).toInt64), .long 0, .long 8] zm_S_M_in ml_M_109 (fun _ h => B_M_in g (d + 3) h) (Nat.le_refl _) ⟨Nat.zero_le _, Nat.zero_le _⟩ rfl rfl (by decide) d_M_people_26 (fun v3 => ?_)
  refine zj_if_ne 35 d_M_people_29 rfl (fun _ => ?_) (fun _ => ?_)
  · refine zj_aload_n d_M_people_35 rfl ?_
    refine zj_getR fl_M_91 (fun _ _ _ _ => rfl) d_M_people_36 (fun v4 => ?_)
    refine zj_iload_n d_M_people_39 rfl ?_
    refine zj_iaload d_M_people_40 (fun v5 => ?_)
    refine zj_if_lt 57 d_M_people_41 rfl (fun _ => ?_) (fun _ => ?_)
    · refine zj_aload_n d_M_people_57 rfl ?_
      refine zj_getR fl_M_91 (fun _ _ _ _ => rfl) d_M_people_58 (fun v6 => ?_)
      refine zj_iload_n d_M_people_61 rfl ?_
      refine zj_iaload d_M_people_62 (fun v7 => ?_)
      refine zj_if_ge 69 d_M_people_63 rfl (fun _ => ?_) (fun _ => ?_)
      · refine zj_iconst 0 d_M_people_69 (by decide) ?_
        refine zj_istore [some (zr g (some this)), some (.int a1), some (.int a2), some (.int a3), some (.int a4), some (.int 0), none, none] d_M_people_70 (by decide) rfl rfl ?_
        refine zj_iconst 0 d_M_people_72 (by decide) ?_
        refine zj_istore [some (zr g (some this)), some (.int a1), some (.int a2), some (.int a3), some (.int a4), some (.int 0), some (.int 0), none] d_M_people_73 (by decide) rfl rfl ?_
        refine zj_cut [some (zr g (some this)), some (.int a1), none, some (.int a3), some (.int a4), some (.int 0), some (.int 0), none] ⟨rfl, ⟨rfl, ⟨rfl, ⟨rfl, ⟨rfl, ⟨rfl, trivial⟩⟩⟩⟩⟩⟩ ?_
        refine zj_fix3 (fun u9 x10 x11 => [some (zr g (some this)), some (.int a1), none, some (.int a3), some (.int a4), some (.int x10), some (.int x11), none]) (fun u9 x10 x11 => u9) (fun r8 hr8 u9 x10 x11 => ?_) u0 0 0
        refine zj_iload d_M_people_75 rfl ?_
        refine zj_iload d_M_people_77 rfl ?_
        refine zj_icmp_ge 158 d_M_people_79 rfl (fun _ => ?_) (fun _ => ?_)
        · refine zj_iload d_M_people_158 rfl ?_
          exact zj_iret rfl rfl rfl rfl d_M_people_160
        refine zj_iload_n d_M_people_82 rfl ?_
        refine zj_if_lt 103 d_M_people_83 rfl (fun _ => ?_) (fun _ => ?_)
        · refine zj_bipush (-12) d_M_people_103 (by decide) ?_
          exact zj_iret rfl rfl rfl rfl d_M_people_105
        refine zj_iload_n d_M_people_86 rfl ?_
        refine zj_aload_n d_M_people_87 rfl ?_
        refine zj_getR fl_M_94 (fun _ _ _ _ => rfl) d_M_people_88 (fun v12 => ?_)
        refine zj_iload_n d_M_people_91 rfl ?_
        refine zj_iaload d_M_people_92 (fun v13 => ?_)
        refine zj_iconst 2 d_M_people_93 (by decide) ?_
        refine zj_isub d_M_people_94 ?_
        refine zj_iconst 2 d_M_people_95 (by decide) ?_
        refine zj_iload d_M_people_96 rfl ?_
        refine zj_imul d_M_people_98 ?_
        refine zj_isub d_M_people_99 ?_
        refine zj_icmp_le 106 d_M_people_100 rfl (fun _ => ?_) (fun _ => ?_)
        · refine zj_bipush 40 d_M_people_106 (by decide) ?_
          refine zj_iload_n d_M_people_108 rfl ?_
          refine zj_imul d_M_people_109 ?_
          refine zj_iload_n d_M_people_110 rfl ?_
          refine zj_iadd d_M_people_111 ?_
          refine zj_iconst 2 d_M_people_112 (by decide) ?_
          refine zj_iload d_M_people_113 rfl ?_
          refine zj_imul d_M_people_115 ?_
          refine zj_iadd d_M_people_116 ?_
          refine zj_letI (fun x14 => ?_)
          refine zj_istore [some (zr g (some this)), some (.int a1), none, some (.int a3), some (.int a4), some (.int x10), some (.int x11), some (.int x14)] d_M_people_117 (by decide) rfl rfl ?_
          refine zj_iload d_M_people_119 rfl ?_
          refine zj_aload_n d_M_people_121 rfl ?_
          refine zj_aload_n d_M_people_122 rfl ?_
          refine zj_getR fl_M_97 (fun _ _ _ _ => rfl) d_M_people_123 (fun v15 => ?_)
          refine zj_iload d_M_people_126 rfl ?_
          refine zj_iaload d_M_people_128 (fun v16 => ?_)
          refine zj_aload_n d_M_people_129 rfl ?_
          refine zj_getR fl_M_97 (fun _ _ _ _ => rfl) d_M_people_130 (fun v17 => ?_)
          refine zj_iload d_M_people_133 rfl ?_
          refine zj_iconst 1 d_M_people_135 (by decide) ?_
          refine zj_iadd d_M_people_136 ?_
          refine zj_iaload d_M_people_137 (fun v18 => ?_)
          refine zj_cVI (ci := 9) (T := zT9) (N := 53) [.int v16, .int v18] zm_V_M_person ml_M_358 rfl (fun _ _ h => B_M_person g (d) h) (Nat.le_refl _) ⟨Nat.zero_le _, Nat.zero_le _⟩ rfl rfl (by simp [zcI, zcJ]) d_M_people_138 (fun v19 u20 => ?_)
          refine zj_if_lt 148 d_M_people_141 rfl (fun _ => ?_) (fun _ => ?_)
          · refine zj_iconst 0 d_M_people_148 (by decide) ?_
            refine zj_iadd d_M_people_149 ?_
            refine zj_istore [some (zr g (some this)), some (.int a1), none, some (.int a3), some (.int a4), some (.int (x10 + 0)), some (.int x11), some (.int x14)] d_M_people_150 (by decide) rfl rfl ?_
            refine zj_iinc (v := (x11 + 1)) [some (zr g (some this)), some (.int a1), none, some (.int a3), some (.int a4), some (.int (x10 + 0)), some (.int (x11 + 1)), some (.int x14)] d_M_people_152 rfl rfl (by decide) rfl rfl ?_
            refine zj_goto 75 d_M_people_155 rfl ?_
            refine zj_cut [some (zr g (some this)), some (.int a1), none, some (.int a3), some (.int a4), some (.int (x10 + 0)), some (.int (x11 + 1)), none] ⟨rfl, ⟨rfl, ⟨rfl, ⟨rfl, ⟨rfl, ⟨rfl, trivial⟩⟩⟩⟩⟩⟩ ?_
            exact hr8 u20 (x10 + 0) (x11 + 1)
          refine zj_iconst 1 d_M_people_144 (by decide) ?_
          refine zj_goto 149 d_M_people_145 rfl ?_
          refine zj_iadd d_M_people_149 ?_
          refine zj_istore [some (zr g (some this)), some (.int a1), none, some (.int a3), some (.int a4), some (.int (x10 + 1)), some (.int x11), some (.int x14)] d_M_people_150 (by decide) rfl rfl ?_
          refine zj_iinc (v := (x11 + 1)) [some (zr g (some this)), some (.int a1), none, some (.int a3), some (.int a4), some (.int (x10 + 1)), some (.int (x11 + 1)), some (.int x14)] d_M_people_152 rfl rfl (by decide) rfl rfl ?_
          refine zj_goto 75 d_M_people_155 rfl ?_
          refine zj_cut [some (zr g (some this)), some (.int a1), none, some (.int a3), some (.int a4), some (.int (x10 + 1)), some (.int (x11 + 1)), none] ⟨rfl, ⟨rfl, ⟨rfl, ⟨rfl, ⟨rfl, ⟨rfl, trivial⟩⟩⟩⟩⟩⟩ ?_
          exact hr8 u20 (x10 + 1) (x11 + 1)
        refine zj_bipush (-12) d_M_people_103 (by decide) ?_
        exact zj_iret rfl rfl rfl rfl d_M_people_105
      refine zj_bipush (-11) d_M_people_66 (by decide) ?_
      exact zj_iret rfl rfl rfl rfl d_M_people_68
    refine zj_aload_n d_M_people_44 rfl ?_
    refine zj_getR fl_M_91 (fun _ _ _ _ => rfl) d_M_people_45 (fun v22 => ?_)
    refine zj_iload_n d_M_people_48 rfl ?_
    refine zj_iaload d_M_people_49 (fun v23 => ?_)
    refine zj_iload_n d_M_people_50 rfl ?_
    refine zj_icmp_eq 57 d_M_people_51 rfl (fun _ => ?_) (fun _ => ?_)
    · refine zj_aload_n d_M_people_57 rfl ?_
      refine zj_getR fl_M_91 (fun _ _ _ _ => rfl) d_M_people_58 (fun v24 => ?_)
      refine zj_iload_n d_M_people_61 rfl ?_
      refine zj_iaload d_M_people_62 (fun v25 => ?_)
      refine zj_if_ge 69 d_M_people_63 rfl (fun _ => ?_) (fun _ => ?_)
      · refine zj_iconst 0 d_M_people_69 (by decide) ?_
        refine zj_istore [some (zr g (some this)), some (.int a1), some (.int a2), some (.int a3), some (.int a4), some (.int 0), none, none] d_M_people_70 (by decide) rfl rfl ?_
        refine zj_iconst 0 d_M_people_72 (by decide) ?_
        refine zj_istore [some (zr g (some this)), some (.int a1), some (.int a2), some (.int a3), some (.int a4), some (.int 0), some (.int 0), none] d_M_people_73 (by decide) rfl rfl ?_
        refine zj_cut [some (zr g (some this)), some (.int a1), none, some (.int a3), some (.int a4), some (.int 0), some (.int 0), none] ⟨rfl, ⟨rfl, ⟨rfl, ⟨rfl, ⟨rfl, ⟨rfl, trivial⟩⟩⟩⟩⟩⟩ ?_
        refine zj_fix3 (fun u27 x28 x29 => [some (zr g (some this)), some (.int a1), none, some (.int a3), some (.int a4), some (.int x28), some (.int x29), none]) (fun u27 x28 x29 => u27) (fun r26 hr26 u27 x28 x29 => ?_) u0 0 0
        refine zj_iload d_M_people_75 rfl ?_
        refine zj_iload d_M_people_77 rfl ?_
        refine zj_icmp_ge 158 d_M_people_79 rfl (fun _ => ?_) (fun _ => ?_)
        · refine zj_iload d_M_people_158 rfl ?_
          exact zj_iret rfl rfl rfl rfl d_M_people_160
        refine zj_iload_n d_M_people_82 rfl ?_
        refine zj_if_lt 103 d_M_people_83 rfl (fun _ => ?_) (fun _ => ?_)
        · refine zj_bipush (-12) d_M_people_103 (by decide) ?_
          exact zj_iret rfl rfl rfl rfl d_M_people_105
        refine zj_iload_n d_M_people_86 rfl ?_
        refine zj_aload_n d_M_people_87 rfl ?_
        refine zj_getR fl_M_94 (fun _ _ _ _ => rfl) d_M_people_88 (fun v30 => ?_)
        refine zj_iload_n d_M_people_91 rfl ?_
        refine zj_iaload d_M_people_92 (fun v31 => ?_)
        refine zj_iconst 2 d_M_people_93 (by decide) ?_
        refine zj_isub d_M_people_94 ?_
        refine zj_iconst 2 d_M_people_95 (by decide) ?_
        refine zj_iload d_M_people_96 rfl ?_
        refine zj_imul d_M_people_98 ?_
        refine zj_isub d_M_people_99 ?_
        refine zj_icmp_le 106 d_M_people_100 rfl (fun _ => ?_) (fun _ => ?_)
        · refine zj_bipush 40 d_M_people_106 (by decide) ?_
          refine zj_iload_n d_M_people_108 rfl ?_
          refine zj_imul d_M_people_109 ?_
          refine zj_iload_n d_M_people_110 rfl ?_
          refine zj_iadd d_M_people_111 ?_
          refine zj_iconst 2 d_M_people_112 (by decide) ?_
          refine zj_iload d_M_people_113 rfl ?_
          refine zj_imul d_M_people_115 ?_
          refine zj_iadd d_M_people_116 ?_
          refine zj_letI (fun x32 => ?_)
          refine zj_istore [some (zr g (some this)), some (.int a1), none, some (.int a3), some (.int a4), some (.int x28), some (.int x29), some (.int x32)] d_M_people_117 (by decide) rfl rfl ?_
          refine zj_iload d_M_people_119 rfl ?_
          refine zj_aload_n d_M_people_121 rfl ?_
          refine zj_aload_n d_M_people_122 rfl ?_
          refine zj_getR fl_M_97 (fun _ _ _ _ => rfl) d_M_people_123 (fun v33 => ?_)
          refine zj_iload d_M_people_126 rfl ?_
          refine zj_iaload d_M_people_128 (fun v34 => ?_)
          refine zj_aload_n d_M_people_129 rfl ?_
          refine zj_getR fl_M_97 (fun _ _ _ _ => rfl) d_M_people_130 (fun v35 => ?_)
          refine zj_iload d_M_people_133 rfl ?_
          refine zj_iconst 1 d_M_people_135 (by decide) ?_
          refine zj_iadd d_M_people_136 ?_
          refine zj_iaload d_M_people_137 (fun v36 => ?_)
          refine zj_cVI (ci := 9) (T := zT9) (N := 53) [.int v34, .int v36] zm_V_M_person ml_M_358 rfl (fun _ _ h => B_M_person g (d) h) (Nat.le_refl _) ⟨Nat.zero_le _, Nat.zero_le _⟩ rfl rfl (by simp [zcI, zcJ]) d_M_people_138 (fun v37 u38 => ?_)
          refine zj_if_lt 148 d_M_people_141 rfl (fun _ => ?_) (fun _ => ?_)
          · refine zj_iconst 0 d_M_people_148 (by decide) ?_
            refine zj_iadd d_M_people_149 ?_
            refine zj_istore [some (zr g (some this)), some (.int a1), none, some (.int a3), some (.int a4), some (.int (x28 + 0)), some (.int x29), some (.int x32)] d_M_people_150 (by decide) rfl rfl ?_
            refine zj_iinc (v := (x29 + 1)) [some (zr g (some this)), some (.int a1), none, some (.int a3), some (.int a4), some (.int (x28 + 0)), some (.int (x29 + 1)), some (.int x32)] d_M_people_152 rfl rfl (by decide) rfl rfl ?_
            refine zj_goto 75 d_M_people_155 rfl ?_
            refine zj_cut [some (zr g (some this)), some (.int a1), none, some (.int a3), some (.int a4), some (.int (x28 + 0)), some (.int (x29 + 1)), none] ⟨rfl, ⟨rfl, ⟨rfl, ⟨rfl, ⟨rfl, ⟨rfl, trivial⟩⟩⟩⟩⟩⟩ ?_
            exact hr26 u38 (x28 + 0) (x29 + 1)
          refine zj_iconst 1 d_M_people_144 (by decide) ?_
          refine zj_goto 149 d_M_people_145 rfl ?_
          refine zj_iadd d_M_people_149 ?_
          refine zj_istore [some (zr g (some this)), some (.int a1), none, some (.int a3), some (.int a4), some (.int (x28 + 1)), some (.int x29), some (.int x32)] d_M_people_150 (by decide) rfl rfl ?_
          refine zj_iinc (v := (x29 + 1)) [some (zr g (some this)), some (.int a1), none, some (.int a3), some (.int a4), some (.int (x28 + 1)), some (.int (x29 + 1)), some (.int x32)] d_M_people_152 rfl rfl (by decide) rfl rfl ?_
          refine zj_goto 75 d_M_people_155 rfl ?_
          refine zj_cut [some (zr g (some this)), some (.int a1), none, some (.int a3), some (.int a4), some (.int (x28 + 1)), some (.int (x29 + 1)), none] ⟨rfl, ⟨rfl, ⟨rfl, ⟨rfl, ⟨rfl, ⟨rfl, trivial⟩⟩⟩⟩⟩⟩ ?_
          exact hr26 u38 (x28 + 1) (x29 + 1)
        refine zj_bipush (-12) d_M_people_103 (by decide) ?_
        exact zj_iret rfl rfl rfl rfl d_M_people_105
      refine zj_bipush (-11) d_M_people_66 (by decide) ?_
      exact zj_iret rfl rfl rfl rfl d_M_people_68
    refine zj_bipush (-13) d_M_people_54 (by decide) ?_
    exact zj_iret rfl rfl rfl rfl d_M_people_56
  refine zj_bipush (-2) d_M_people_32 (by decide) ?_
  exact zj_iret rfl rfl rfl rfl d_M_people_34
def F_X_few (u0 : zS) (this : Nat) (a1 : Int32) : Option (Int32 × zS) := (zob u0 8 (some this)).bind fun q2 => (F_X_isCrewSet u0 q2 a1).bind fun v1 => if v1 = 0 then (some ((-2), u0)) else ((zob u0 8 (some this)).bind fun q5 => (F_X_lookWhoCan u0 q5 ).bind fun u4 => (zgR u4 8 (some this) 8).bind fun v6 => (zob u4 8 (some this)).bind fun q8 => (F_X_everyone u4 q8 ).bind fun v7 => (zob u4 1 v6).bind fun q10 => (F_Cover_tooFew u4 q10 (v7 &&& (a1 ^^^ (-1)))).bind fun v9 => some (v9, u4))
set_option maxHeartbeats 4000000 in
set_option maxRecDepth 100000 in
theorem B_X_few (g : zG) (d : Nat) {u0 : zS} {this : Nat} {a1 : Int32} {o : Int32 × zS} (h : F_X_few u0 this a1 = some o) : zMt g zy_X_few (d + 6) 0 0 [zr g (some this), .int a1] u0 (some (.int o.1)) o.2 := by
  refine zMt_of2 (ls := [some (zr g (some this)), some (.int a1)]) 0 (by decide +kernel) (by simp [lg_sl, zr_cat, zcI, zcJ]) (by simp [zal, zr_cat, zcI, zcJ, List.replicate]) ?_
  revert h
  show zJ g zy_X_few (d + 6) 0 0 zwI o 0 0 0 [some (zr g (some this)), some (.int a1)] [] u0 (F_X_few u0 this a1)
  unfold F_X_few
  refine zj_aload_n d_X_few_0 rfl ?_
  refine zj_iload_n d_X_few_1 rfl ?_
  refine zj_cVIp (ci := 8) (T := zT8) (N := 16) [.int a1] zm_V_X_isCrewSet ml_X_184 rfl (fun _ _ h => B_X_isCrewSet g (d + 3) h) (Nat.le_refl _) ⟨Nat.zero_le _, Nat.zero_le _⟩ rfl rfl (by decide) d_X_few_2 (fun v1 => ?_)
  refine zj_if_ne 11 d_X_few_5 rfl (fun _ => ?_) (fun _ => ?_)
  · refine zj_aload_n d_X_few_11 rfl ?_
    refine zj_cVU (ci := 8) (T := zT8) (N := 16) [] zm_V_X_lookWhoCan ml_X_194 rfl (fun _ _ h => B_X_lookWhoCan g (d) h) (Nat.le_refl _) ⟨Nat.zero_le _, Nat.zero_le _⟩ rfl rfl (by decide) d_X_few_12 (fun u4 => ?_)
    refine zj_aload_n d_X_few_15 rfl ?_
    refine zj_getR fl_X_45 (fun _ _ _ _ => rfl) d_X_few_16 (fun v6 => ?_)
    refine zj_aload_n d_X_few_19 rfl ?_
    refine zj_cVIp (ci := 8) (T := zT8) (N := 16) [] zm_V_X_everyone ml_X_197 rfl (fun _ _ h => B_X_everyone g (d + 4) h) (Nat.le_refl _) ⟨Nat.zero_le _, Nat.zero_le _⟩ rfl rfl (by simp [zr_cat, zcI, zcJ]) d_X_few_20 (fun v7 => ?_)
    refine zj_iload_n d_X_few_23 rfl ?_
    refine zj_iconst (-1) d_X_few_24 (by decide) ?_
    refine zj_ixor d_X_few_25 ?_
    refine zj_iand d_X_few_26 ?_
    refine zj_cVIp (ci := 1) (T := zT1) (N := 3) [.int (v7 &&& (a1 ^^^ (-1)))] zm_V_Cover_tooFew ml_X_200 rfl (fun _ _ h => B_Cover_tooFew g (d + 3) h) (Nat.le_refl _) ⟨Nat.zero_le _, Nat.zero_le _⟩ rfl rfl (by decide) d_X_few_27 (fun v9 => ?_)
    exact zj_iret rfl rfl rfl rfl d_X_few_30
  refine zj_bipush (-2) d_X_few_8 (by decide) ?_
  exact zj_iret rfl rfl rfl rfl d_X_few_10
def F_X_firstThatBreaks (u0 : zS) (this : Nat) (a1 : Int32) : Option (Int32 × zS) := (zob u0 8 (some this)).bind fun q3 => (F_X_lookWhoCan u0 q3 ).bind fun u2 => zfix1 (fun (r4 : Int32 → Option (Int32 × zS)) (x5 : Int32) => (zob u2 8 (some this)).bind fun q7 => (F_X_everyone u2 q7 ).bind fun v6 => if v6 < x5 then (some ((-1), u2)) else ((F_Integer_bitCount u2 x5).bind fun v8 => if v8 = a1 then ((zgR u2 8 (some this) 8).bind fun v9 => (zob u2 8 (some this)).bind fun q11 => (F_X_everyone u2 q11 ).bind fun v10 => (zob u2 1 v9).bind fun q13 => (F_Cover_tooFew u2 q13 (v10 &&& (x5 ^^^ (-1)))).bind fun v12 => if v12 = (-1) then (r4 (x5 + 1)) else (some (x5, u2))) else (r4 (x5 + 1)))) zFU 0
set_option maxHeartbeats 4000000 in
set_option maxRecDepth 100000 in
theorem B_X_firstThatBreaks (g : zG) (d : Nat) {u0 : zS} {this : Nat} {a1 : Int32} {o : Int32 × zS} (h : F_X_firstThatBreaks u0 this a1 = some o) : zMt g zy_X_firstThatBreaks (d + 6) 0 0 [zr g (some this), .int a1] u0 (some (.int o.1)) o.2 := by
  refine zMt_of2 (ls := [some (zr g (some this)), some (.int a1), none]) 1 (by decide +kernel) (by simp [lg_sl, zr_cat, zcI, zcJ]) (by simp [zal, zr_cat, zcI, zcJ, List.replicate]) ?_
  revert h
  show zJ g zy_X_firstThatBreaks (d + 6) 0 0 zwI o 0 0 0 [some (zr g (some this)), some (.int a1), none] [] u0 (F_X_firstThatBreaks u0 this a1)
  unfold F_X_firstThatBreaks
  refine zj_aload_n d_X_firstThatBreaks_0 rfl ?_
  refine zj_cVU (ci := 8) (T := zT8) (N := 16) [] zm_V_X_lookWhoCan ml_X_194 rfl (fun _ _ h => B_X_lookWhoCan g (d) h) (Nat.le_refl _) ⟨Nat.zero_le _, Nat.zero_le _⟩ rfl rfl (by decide) d_X_firstThatBreaks_1 (fun u2 => ?_)
  refine zj_iconst 0 d_X_firstThatBreaks_4 (by decide) ?_
  refine zj_istore_n [some (zr g (some this)), some (.int a1), some (.int 0)] d_X_firstThatBreaks_5 (by decide) rfl rfl ?_
  refine zj_fix1 (fun x5 => [some (zr g (some this)), some (.int a1), some (.int x5)]) (fun x5 => u2) (fun r4 hr4 x5 => ?_) 0
  refine zj_iload_n d_X_firstThatBreaks_6 rfl ?_
  refine zj_aload_n d_X_firstThatBreaks_7 rfl ?_
  refine zj_cVIp (ci := 8) (T := zT8) (N := 16) [] zm_V_X_everyone ml_X_197 rfl (fun _ _ h => B_X_everyone g (d + 4) h) (Nat.le_refl _) ⟨Nat.zero_le _, Nat.zero_le _⟩ rfl rfl (by simp [zcI, zcJ]) d_X_firstThatBreaks_8 (fun v6 => ?_)
  refine zj_icmp_gt 49 d_X_firstThatBreaks_11 rfl (fun _ => ?_) (fun _ => ?_)
  · refine zj_iconst (-1) d_X_firstThatBreaks_49 (by decide) ?_
    exact zj_iret rfl rfl rfl rfl d_X_firstThatBreaks_50
  refine zj_iload_n d_X_firstThatBreaks_14 rfl ?_
  refine zj_cSIp [.int x5] zm_S_Integer_bitCount ml_X_301 (fun _ h => B_Integer_bitCount g (d + 4) h) (Nat.le_refl _) ⟨Nat.zero_le _, Nat.zero_le _⟩ rfl rfl (by decide) d_X_firstThatBreaks_15 (fun v8 => ?_)
  refine zj_iload_n d_X_firstThatBreaks_18 rfl ?_
  refine zj_icmp_ne 43 d_X_firstThatBreaks_19 rfl (fun _ => ?_) (fun _ => ?_)
  · refine zj_iinc (v := (x5 + 1)) [some (zr g (some this)), some (.int a1), some (.int (x5 + 1))] d_X_firstThatBreaks_43 rfl rfl (by decide) rfl rfl ?_
    refine zj_goto 6 d_X_firstThatBreaks_46 rfl ?_
    exact hr4 (x5 + 1)
  refine zj_aload_n d_X_firstThatBreaks_22 rfl ?_
  refine zj_getR fl_X_45 (fun _ _ _ _ => rfl) d_X_firstThatBreaks_23 (fun v9 => ?_)
  refine zj_aload_n d_X_firstThatBreaks_26 rfl ?_
  refine zj_cVIp (ci := 8) (T := zT8) (N := 16) [] zm_V_X_everyone ml_X_197 rfl (fun _ _ h => B_X_everyone g (d + 4) h) (Nat.le_refl _) ⟨Nat.zero_le _, Nat.zero_le _⟩ rfl rfl (by simp [zr_cat, zcI, zcJ]) d_X_firstThatBreaks_27 (fun v10 => ?_)
  refine zj_iload_n d_X_firstThatBreaks_30 rfl ?_
  refine zj_iconst (-1) d_X_firstThatBreaks_31 (by decide) ?_
  refine zj_ixor d_X_firstThatBreaks_32 ?_
  refine zj_iand d_X_firstThatBreaks_33 ?_
  refine zj_cVIp (ci := 1) (T := zT1) (N := 3) [.int (v10 &&& (x5 ^^^ (-1)))] zm_V_Cover_tooFew ml_X_200 rfl (fun _ _ h => B_Cover_tooFew g (d + 3) h) (Nat.le_refl _) ⟨Nat.zero_le _, Nat.zero_le _⟩ rfl rfl (by decide) d_X_firstThatBreaks_34 (fun v12 => ?_)
  refine zj_iconst (-1) d_X_firstThatBreaks_37 (by decide) ?_
  refine zj_icmp_eq 43 d_X_firstThatBreaks_38 rfl (fun _ => ?_) (fun _ => ?_)
  · refine zj_iinc (v := (x5 + 1)) [some (zr g (some this)), some (.int a1), some (.int (x5 + 1))] d_X_firstThatBreaks_43 rfl rfl (by decide) rfl rfl ?_
    refine zj_goto 6 d_X_firstThatBreaks_46 rfl ?_
    exact hr4 (x5 + 1)
  refine zj_iload_n d_X_firstThatBreaks_41 rfl ?_
  exact zj_iret rfl rfl rfl rfl d_X_firstThatBreaks_42
def F_X_holds (u0 : zS) (this : Nat) (a1 : Int32) : Option (Int32 × zS) := if a1 < 0 then (some ((-2), u0)) else (if a1 ≤ 7 then ((zob u0 8 (some this)).bind fun q3 => (F_X_lookWhoCan u0 q3 ).bind fun u2 => (zgR u2 8 (some this) 8).bind fun v4 => (zgI u2 8 (some this) 2).bind fun v5 => (zob u2 1 v4).bind fun q7 => (F_Cover_bears u2 q7 a1 v5).bind fun v6 => if v6 = 0 then (some (0, u2)) else (some (1, u2))) else (some ((-2), u0)))
set_option maxHeartbeats 4000000 in
set_option maxRecDepth 100000 in
theorem B_X_holds (g : zG) (d : Nat) {u0 : zS} {this : Nat} {a1 : Int32} {o : Int32 × zS} (h : F_X_holds u0 this a1 = some o) : zMt g zy_X_holds (d + 6) 0 0 [zr g (some this), .int a1] u0 (some (.int o.1)) o.2 := by
  refine zMt_of2 (ls := [some (zr g (some this)), some (.int a1)]) 0 (by decide +kernel) (by simp [lg_sl, zr_cat, zcI, zcJ]) (by simp [zal, zr_cat, zcI, zcJ, List.replicate]) ?_
  revert h
  show zJ g zy_X_holds (d + 6) 0 0 zwI o 0 0 0 [some (zr g (some this)), some (.int a1)] [] u0 (F_X_holds u0 this a1)
  unfold F_X_holds
  refine zj_iload_n d_X_holds_0 rfl ?_
  refine zj_if_lt 10 d_X_holds_1 rfl (fun _ => ?_) (fun _ => ?_)
  · refine zj_bipush (-2) d_X_holds_10 (by decide) ?_
    exact zj_iret rfl rfl rfl rfl d_X_holds_12
  refine zj_iload_n d_X_holds_4 rfl ?_
  refine zj_bipush 7 d_X_holds_5 (by decide) ?_
  refine zj_icmp_le 13 d_X_holds_7 rfl (fun _ => ?_) (fun _ => ?_)
  · refine zj_aload_n d_X_holds_13 rfl ?_
    refine zj_cVU (ci := 8) (T := zT8) (N := 16) [] zm_V_X_lookWhoCan ml_X_194 rfl (fun _ _ h => B_X_lookWhoCan g (d) h) (Nat.le_refl _) ⟨Nat.zero_le _, Nat.zero_le _⟩ rfl rfl (by decide) d_X_holds_14 (fun u2 => ?_)
    refine zj_aload_n d_X_holds_17 rfl ?_
    refine zj_getR fl_X_45 (fun _ _ _ _ => rfl) d_X_holds_18 (fun v4 => ?_)
    refine zj_iload_n d_X_holds_21 rfl ?_
    refine zj_aload_n d_X_holds_22 rfl ?_
    refine zj_getI fl_X_22 (fun _ _ _ _ => rfl) d_X_holds_23 (fun v5 => ?_)
    refine zj_cVIp (ci := 1) (T := zT1) (N := 3) [.int a1, .int v5] zm_V_Cover_bears ml_X_203 rfl (fun _ _ h => B_Cover_bears g (d + 2) h) (Nat.le_refl _) ⟨Nat.zero_le _, Nat.zero_le _⟩ rfl rfl (by decide) d_X_holds_26 (fun v6 => ?_)
    refine zj_if_eq 36 d_X_holds_29 rfl (fun _ => ?_) (fun _ => ?_)
    · refine zj_iconst 0 d_X_holds_36 (by decide) ?_
      exact zj_iret rfl rfl rfl rfl d_X_holds_37
    refine zj_iconst 1 d_X_holds_32 (by decide) ?_
    refine zj_goto 37 d_X_holds_33 rfl ?_
    exact zj_iret rfl rfl rfl rfl d_X_holds_37
  refine zj_bipush (-2) d_X_holds_10 (by decide) ?_
  exact zj_iret rfl rfl rfl rfl d_X_holds_12
def F_X_judge (u0 : zS) (this : Nat) (a1 : Int32) (a2 : Int32) : Option (Int32) := (zob u0 8 (some this)).bind fun q2 => (F_X_isCrewSet u0 q2 a1).bind fun v1 => if v1 = 0 then (some (-2)) else ((F_X_isSheet u0 a2).bind fun v3 => if v3 = 0 then (some (-2)) else ((zgR u0 8 (some this) 11).bind fun v4 => (zaR u0 "PostsFilled$Sheet" v4 a2).bind fun v5 => (zob u0 6 v5).bind fun q7 => (F_Sheet_isMissing u0 q7 ).bind fun v6 => if v6 = 0 then ((zgI u0 6 v5 1).bind fun v8 => (zgR u0 8 (some this) 0).bind fun v9 => (zgI u0 2 v9 0).bind fun v10 => if v8 = v10 then ((zob u0 8 (some this)).bind fun q12 => (F_X_everyone u0 q12 ).bind fun v11 => zfix2 (fun (r13 : Int32 → Int32 → Option (Int32)) (x14 : Int32) (x15 : Int32) => (zgR u0 8 (some this) 0).bind fun v16 => (zgI u0 2 v16 0).bind fun v17 => if v17 ≤ x15 then (some (-1)) else ((zgR u0 6 v5 2).bind fun v18 => (zaI u0 .int v18 x15).bind fun v19 => (zob u0 8 (some this)).bind fun q21 => (F_X_wrongAt u0 q21 x15 v19 x14).bind fun v20 => if v20 = (-1) then (if v19 = (-1) then (r13 x14 (x15 + 1)) else (zlet ((x14 &&& (((1 : Int32) <<< (v19 &&& 31)) ^^^ (-1))) : Int32) fun x22 => r13 x22 (x15 + 1))) else (some v20))) zFU (v11 &&& (a1 ^^^ (-1))) 0) else (some (-2))) else (some (-11))))
set_option maxHeartbeats 4000000 in
set_option maxRecDepth 100000 in
theorem B_X_judge (g : zG) (d : Nat) {u0 : zS} {this : Nat} {a1 : Int32} {a2 : Int32} {o : Int32} (h : F_X_judge u0 this a1 a2 = some o) : zMt g zy_X_judge (d + 6) 0 0 [zr g (some this), .int a1, .int a2] u0 (some (.int o)) u0 := by
  refine zMt_of2 (ls := [some (zr g (some this)), some (.int a1), some (.int a2), none, none, none, none, none]) 5 (by decide +kernel) (by simp [lg_sl, zr_cat, zcI, zcJ]) (by simp [zal, zr_cat, zcI, zcJ, List.replicate]) ?_
  revert h
  show zJ g zy_X_judge (d + 6) 0 0 (zwIp u0) o 0 0 0 [some (zr g (some this)), some (.int a1), some (.int a2), none, none, none, none, none] [] u0 (F_X_judge u0 this a1 a2)
  unfold F_X_judge
  refine zj_aload_n d_X_judge_0 rfl ?_
  refine zj_iload_n d_X_judge_1 rfl ?_
  refine zj_cVIp (ci := 8) (T := zT8) (N := 16) [.int a1] zm_V_X_isCrewSet ml_X_184 rfl (fun _ _ h => B_X_isCrewSet g (d + 3) h) (Nat.le_refl _) ⟨Nat.zero_le _, Nat.zero_le _⟩ rfl rfl (by decide) d_X_judge_2 (fun v1 => ?_)
  refine zj_if_eq 15 d_X_judge_5 rfl (fun _ => ?_) (fun _ => ?_)
  · refine zj_bipush (-2) d_X_judge_15 (by decide) ?_
    exact zj_iret rfl rfl rfl rfl d_X_judge_17
  refine zj_iload_n d_X_judge_8 rfl ?_
  refine zj_cSIp [.int a2] zm_S_X_isSheet ml_X_277 (fun _ h => B_X_isSheet g (d + 4) h) (Nat.le_refl _) ⟨Nat.zero_le _, Nat.zero_le _⟩ rfl rfl (by decide) d_X_judge_9 (fun v3 => ?_)
  refine zj_if_ne 18 d_X_judge_12 rfl (fun _ => ?_) (fun _ => ?_)
  · refine zj_aload_n d_X_judge_18 rfl ?_
    refine zj_getR fl_X_65 (fun _ _ _ _ => rfl) d_X_judge_19 (fun v4 => ?_)
    refine zj_iload_n d_X_judge_22 rfl ?_
    refine zj_aaload 6 rfl d_X_judge_23 (fun v5 => ?_)
    refine zj_astore_n [some (zr g (some this)), some (.int a1), some (.int a2), some (zr g v5), none, none, none, none] d_X_judge_24 (by decide) rfl rfl ?_
    refine zj_aload_n d_X_judge_25 rfl ?_
    refine zj_cVIp (ci := 6) (T := zT6) (N := 3) [] zm_V_Sheet_isMissing ml_X_280 rfl (fun _ _ h => B_Sheet_isMissing g (d + 4) h) (Nat.le_refl _) ⟨Nat.zero_le _, Nat.zero_le _⟩ rfl rfl (by decide) d_X_judge_26 (fun v6 => ?_)
    refine zj_if_eq 35 d_X_judge_29 rfl (fun _ => ?_) (fun _ => ?_)
    · refine zj_aload_n d_X_judge_35 rfl ?_
      refine zj_getI fl_X_284 (fun _ _ _ _ => rfl) d_X_judge_36 (fun v8 => ?_)
      refine zj_aload_n d_X_judge_39 rfl ?_
      refine zj_getR fl_X_10 (fun _ _ _ _ => rfl) d_X_judge_40 (fun v9 => ?_)
      refine zj_getI fl_X_254 (fun _ _ _ _ => rfl) d_X_judge_43 (fun v10 => ?_)
      refine zj_icmp_eq 52 d_X_judge_46 rfl (fun _ => ?_) (fun _ => ?_)
      · refine zj_aload_n d_X_judge_52 rfl ?_
        refine zj_cVIp (ci := 8) (T := zT8) (N := 16) [] zm_V_X_everyone ml_X_197 rfl (fun _ _ h => B_X_everyone g (d + 4) h) (Nat.le_refl _) ⟨Nat.zero_le _, Nat.zero_le _⟩ rfl rfl (by decide) d_X_judge_53 (fun v11 => ?_)
        refine zj_iload_n d_X_judge_56 rfl ?_
        refine zj_iconst (-1) d_X_judge_57 (by decide) ?_
        refine zj_ixor d_X_judge_58 ?_
        refine zj_iand d_X_judge_59 ?_
        refine zj_istore [some (zr g (some this)), some (.int a1), some (.int a2), some (zr g v5), some (.int (v11 &&& (a1 ^^^ (-1)))), none, none, none] d_X_judge_60 (by decide) (by simp [zNL, zr_cat]) rfl ?_
        refine zj_iconst 0 d_X_judge_62 (by decide) ?_
        refine zj_istore [some (zr g (some this)), some (.int a1), some (.int a2), some (zr g v5), some (.int (v11 &&& (a1 ^^^ (-1)))), some (.int 0), none, none] d_X_judge_63 (by decide) rfl rfl ?_
        refine zj_cut [some (zr g (some this)), none, none, some (zr g v5), some (.int (v11 &&& (a1 ^^^ (-1)))), some (.int 0), none, none] ⟨rfl, ⟨rfl, ⟨rfl, ⟨rfl, trivial⟩⟩⟩⟩ ?_
        refine zj_fix2 (fun x14 x15 => [some (zr g (some this)), none, none, some (zr g v5), some (.int x14), some (.int x15), none, none]) (fun x14 x15 => u0) (fun r13 hr13 x14 x15 => ?_) (v11 &&& (a1 ^^^ (-1))) 0
        refine zj_iload d_X_judge_65 rfl ?_
        refine zj_aload_n d_X_judge_67 rfl ?_
        refine zj_getR fl_X_10 (fun _ _ _ _ => rfl) d_X_judge_68 (fun v16 => ?_)
        refine zj_getI fl_X_254 (fun _ _ _ _ => rfl) d_X_judge_71 (fun v17 => ?_)
        refine zj_icmp_ge 130 d_X_judge_74 rfl (fun _ => ?_) (fun _ => ?_)
        · refine zj_iconst (-1) d_X_judge_130 (by decide) ?_
          exact zj_iret rfl rfl rfl rfl d_X_judge_131
        refine zj_aload_n d_X_judge_77 rfl ?_
        refine zj_getR fl_X_285 (fun _ _ _ _ => rfl) d_X_judge_78 (fun v18 => ?_)
        refine zj_iload d_X_judge_81 rfl ?_
        refine zj_iaload d_X_judge_83 (fun v19 => ?_)
        refine zj_istore [some (zr g (some this)), none, none, some (zr g v5), some (.int x14), some (.int x15), some (.int v19), none] d_X_judge_84 (by decide) rfl rfl ?_
        refine zj_aload_n d_X_judge_86 rfl ?_
        refine zj_iload d_X_judge_87 rfl ?_
        refine zj_iload d_X_judge_89 rfl ?_
        refine zj_iload d_X_judge_91 rfl ?_
        refine zj_cVIp (ci := 8) (T := zT8) (N := 16) [.int x15, .int v19, .int x14] zm_V_X_wrongAt ml_X_288 rfl (fun _ _ h => B_X_wrongAt g (d) h) (Nat.le_refl _) ⟨Nat.zero_le _, Nat.zero_le _⟩ rfl rfl (by decide) d_X_judge_93 (fun v20 => ?_)
        refine zj_istore [some (zr g (some this)), none, none, some (zr g v5), some (.int x14), some (.int x15), some (.int v19), some (.int v20)] d_X_judge_96 (by decide) rfl rfl ?_
        refine zj_iload d_X_judge_98 rfl ?_
        refine zj_iconst (-1) d_X_judge_100 (by decide) ?_
        refine zj_icmp_eq 107 d_X_judge_101 rfl (fun _ => ?_) (fun _ => ?_)
        · refine zj_iload d_X_judge_107 rfl ?_
          refine zj_iconst (-1) d_X_judge_109 (by decide) ?_
          refine zj_icmp_eq 124 d_X_judge_110 rfl (fun _ => ?_) (fun _ => ?_)
          · refine zj_iinc (v := (x15 + 1)) [some (zr g (some this)), none, none, some (zr g v5), some (.int x14), some (.int (x15 + 1)), some (.int v19), some (.int v20)] d_X_judge_124 rfl rfl (by decide) rfl rfl ?_
            refine zj_goto 65 d_X_judge_127 rfl ?_
            refine zj_cut [some (zr g (some this)), none, none, some (zr g v5), some (.int x14), some (.int (x15 + 1)), none, none] ⟨rfl, ⟨rfl, ⟨rfl, ⟨rfl, trivial⟩⟩⟩⟩ ?_
            exact hr13 x14 (x15 + 1)
          refine zj_iload d_X_judge_113 rfl ?_
          refine zj_iconst 1 d_X_judge_115 (by decide) ?_
          refine zj_iload d_X_judge_116 rfl ?_
          refine zj_ishl d_X_judge_118 ?_
          refine zj_iconst (-1) d_X_judge_119 (by decide) ?_
          refine zj_ixor d_X_judge_120 ?_
          refine zj_iand d_X_judge_121 ?_
          refine zj_letI (fun x22 => ?_)
          refine zj_istore [some (zr g (some this)), none, none, some (zr g v5), some (.int x22), some (.int x15), some (.int v19), some (.int v20)] d_X_judge_122 (by decide) (by simp [zNL, zr_cat]) rfl ?_
          refine zj_iinc (v := (x15 + 1)) [some (zr g (some this)), none, none, some (zr g v5), some (.int x22), some (.int (x15 + 1)), some (.int v19), some (.int v20)] d_X_judge_124 rfl rfl (by decide) rfl rfl ?_
          refine zj_goto 65 d_X_judge_127 rfl ?_
          refine zj_cut [some (zr g (some this)), none, none, some (zr g v5), some (.int x22), some (.int (x15 + 1)), none, none] ⟨rfl, ⟨rfl, ⟨rfl, ⟨rfl, trivial⟩⟩⟩⟩ ?_
          exact hr13 x22 (x15 + 1)
        refine zj_iload d_X_judge_104 rfl ?_
        exact zj_iret rfl rfl rfl rfl d_X_judge_106
      refine zj_bipush (-2) d_X_judge_49 (by decide) ?_
      exact zj_iret rfl rfl rfl rfl d_X_judge_51
    refine zj_bipush (-11) d_X_judge_32 (by decide) ?_
    exact zj_iret rfl rfl rfl rfl d_X_judge_34
  refine zj_bipush (-2) d_X_judge_15 (by decide) ?_
  exact zj_iret rfl rfl rfl rfl d_X_judge_17
def F_X_lessons (u0 : zS) (this : Nat) (a1 : Int32) (a2 : Int32) : Option (Int32 × zS) := if a1 < 0 then (some ((-2), u0)) else (if 2 < a1 then (some ((-2), u0)) else (if a2 < 0 then (some ((-2), u0)) else (if a2 ≤ 2 then ((zob u0 8 (some this)).bind fun q3 => (F_X_lookWhoCan u0 q3 ).bind fun u2 => (zgR u2 8 (some this) 10).bind fun v4 => (zob u2 0 v4).bind fun q7 => (F_Course_clear u2 q7 ).bind fun u6 => (zgR u6 8 (some this) 8).bind fun v8 => (zgI u6 8 (some this) 2).bind fun v9 => (zob u6 1 v8).bind fun q11 => (F_Cover_bears u6 q11 a1 v9).bind fun v10 => zjn1 (fun (j13 : zS → Option (Int32 × zS)) => if v10 = 0 then ((zob u6 8 (some this)).bind fun q24 => (F_X_offerLessons u6 q24 ).bind fun u23 => (zgR u23 8 (some this) 10).bind fun v25 => (zgR u23 8 (some this) 8).bind fun v26 => (zob u23 1 v26).bind fun q28 => (F_Cover_lacking u23 q28 a1 1).bind fun v27 => (zgR u23 8 (some this) 8).bind fun v29 => (zob u23 1 v29).bind fun q31 => (F_Cover_lacking u23 q31 a1 2).bind fun v30 => (zgR u23 8 (some this) 8).bind fun v32 => (zob u23 1 v32).bind fun q34 => (F_Cover_lacking u23 q34 a1 3).bind fun v33 => (zob u23 0 v25).bind fun q37 => (F_Course_seek u23 q37 v27 v30 v33).bind fun u36 => j13 u36) else (j13 u6)) (fun (u12 : zS) => (zgR u12 8 (some this) 10).bind fun v14 => (zgI u12 0 v14 4).bind fun v15 => if v15 = (-1) then (some ((-1), u12)) else (if a2 = 0 then ((zgR u12 8 (some this) 10).bind fun v20 => (zgI u12 0 v20 4).bind fun v21 => some (v21, u12)) else (if a2 = 1 then ((zgR u12 8 (some this) 10).bind fun v18 => (zgI u12 0 v18 5).bind fun v19 => some (v19, u12)) else ((zgR u12 8 (some this) 10).bind fun v16 => (zgI u12 0 v16 6).bind fun v17 => some (v17, u12)))))) else (some ((-2), u0)))))
set_option maxHeartbeats 4000000 in
set_option maxRecDepth 100000 in
theorem B_X_lessons (g : zG) (d : Nat) {u0 : zS} {this : Nat} {a1 : Int32} {a2 : Int32} {o : Int32 × zS} (h : F_X_lessons u0 this a1 a2 = some o) : zMt g zy_X_lessons (d + 6) 0 0 [zr g (some this), .int a1, .int a2] u0 (some (.int o.1)) o.2 := by
  refine zMt_of2 (ls := [some (zr g (some this)), some (.int a1), some (.int a2)]) 0 (by decide +kernel) (by simp [lg_sl, zr_cat, zcI, zcJ]) (by simp [zal, zr_cat, zcI, zcJ, List.replicate]) ?_
  revert h
  show zJ g zy_X_lessons (d + 6) 0 0 zwI o 0 0 0 [some (zr g (some this)), some (.int a1), some (.int a2)] [] u0 (F_X_lessons u0 this a1 a2)
  unfold F_X_lessons
  refine zj_iload_n d_X_lessons_0 rfl ?_
  refine zj_if_lt 18 d_X_lessons_1 rfl (fun _ => ?_) (fun _ => ?_)
  · refine zj_bipush (-2) d_X_lessons_18 (by decide) ?_
    exact zj_iret rfl rfl rfl rfl d_X_lessons_20
  refine zj_iload_n d_X_lessons_4 rfl ?_
  refine zj_iconst 2 d_X_lessons_5 (by decide) ?_
  refine zj_icmp_gt 18 d_X_lessons_6 rfl (fun _ => ?_) (fun _ => ?_)
  · refine zj_bipush (-2) d_X_lessons_18 (by decide) ?_
    exact zj_iret rfl rfl rfl rfl d_X_lessons_20
  refine zj_iload_n d_X_lessons_9 rfl ?_
  refine zj_if_lt 18 d_X_lessons_10 rfl (fun _ => ?_) (fun _ => ?_)
  · refine zj_bipush (-2) d_X_lessons_18 (by decide) ?_
    exact zj_iret rfl rfl rfl rfl d_X_lessons_20
  refine zj_iload_n d_X_lessons_13 rfl ?_
  refine zj_iconst 2 d_X_lessons_14 (by decide) ?_
  refine zj_icmp_le 21 d_X_lessons_15 rfl (fun _ => ?_) (fun _ => ?_)
  · refine zj_aload_n d_X_lessons_21 rfl ?_
    refine zj_cVU (ci := 8) (T := zT8) (N := 16) [] zm_V_X_lookWhoCan ml_X_194 rfl (fun _ _ h => B_X_lookWhoCan g (d) h) (Nat.le_refl _) ⟨Nat.zero_le _, Nat.zero_le _⟩ rfl rfl (by decide) d_X_lessons_22 (fun u2 => ?_)
    refine zj_aload_n d_X_lessons_25 rfl ?_
    refine zj_getR fl_X_59 (fun _ _ _ _ => rfl) d_X_lessons_26 (fun v4 => ?_)
    refine zj_cVU (ci := 0) (T := zT0) (N := 7) [] zm_V_Course_clear ml_X_213 rfl (fun _ _ h => B_Course_clear g (d + 4) h) (Nat.le_refl _) ⟨Nat.zero_le _, Nat.zero_le _⟩ rfl rfl (by decide) d_X_lessons_29 (fun u6 => ?_)
    refine zj_aload_n d_X_lessons_32 rfl ?_
    refine zj_getR fl_X_45 (fun _ _ _ _ => rfl) d_X_lessons_33 (fun v8 => ?_)
    refine zj_iload_n d_X_lessons_36 rfl ?_
    refine zj_aload_n d_X_lessons_37 rfl ?_
    refine zj_getI fl_X_22 (fun _ _ _ _ => rfl) d_X_lessons_38 (fun v9 => ?_)
    refine zj_cVIp (ci := 1) (T := zT1) (N := 3) [.int a1, .int v9] zm_V_Cover_bears ml_X_203 rfl (fun _ _ h => B_Cover_bears g (d + 2) h) (Nat.le_refl _) ⟨Nat.zero_le _, Nat.zero_le _⟩ rfl rfl (by decide) d_X_lessons_41 (fun v10 => ?_)
    refine zj_jn1 (pcj := 85) (fun u12 => [some (zr g (some this)), none, some (.int a2)]) (fun u12 => []) (fun u12 => u12) (fun u12 => ?_) (fun j13 hj13 => ?_)
    · refine zj_aload_n d_X_lessons_85 rfl ?_
      refine zj_getR fl_X_59 (fun _ _ _ _ => rfl) d_X_lessons_86 (fun v14 => ?_)
      refine zj_getI fl_X_227 (fun _ _ _ _ => rfl) d_X_lessons_89 (fun v15 => ?_)
      refine zj_iconst (-1) d_X_lessons_92 (by decide) ?_
      refine zj_icmp_ne 98 d_X_lessons_93 rfl (fun _ => ?_) (fun _ => ?_)
      · refine zj_iload_n d_X_lessons_98 rfl ?_
        refine zj_if_ne 112 d_X_lessons_99 rfl (fun _ => ?_) (fun _ => ?_)
        · refine zj_iload_n d_X_lessons_112 rfl ?_
          refine zj_iconst 1 d_X_lessons_113 (by decide) ?_
          refine zj_icmp_ne 127 d_X_lessons_114 rfl (fun _ => ?_) (fun _ => ?_)
          · refine zj_aload_n d_X_lessons_127 rfl ?_
            refine zj_getR fl_X_59 (fun _ _ _ _ => rfl) d_X_lessons_128 (fun v16 => ?_)
            refine zj_getI fl_X_233 (fun _ _ _ _ => rfl) d_X_lessons_131 (fun v17 => ?_)
            exact zj_iret rfl rfl rfl rfl d_X_lessons_134
          refine zj_aload_n d_X_lessons_117 rfl ?_
          refine zj_getR fl_X_59 (fun _ _ _ _ => rfl) d_X_lessons_118 (fun v18 => ?_)
          refine zj_getI fl_X_230 (fun _ _ _ _ => rfl) d_X_lessons_121 (fun v19 => ?_)
          refine zj_goto 134 d_X_lessons_124 rfl ?_
          exact zj_iret rfl rfl rfl rfl d_X_lessons_134
        refine zj_aload_n d_X_lessons_102 rfl ?_
        refine zj_getR fl_X_59 (fun _ _ _ _ => rfl) d_X_lessons_103 (fun v20 => ?_)
        refine zj_getI fl_X_227 (fun _ _ _ _ => rfl) d_X_lessons_106 (fun v21 => ?_)
        refine zj_goto 134 d_X_lessons_109 rfl ?_
        exact zj_iret rfl rfl rfl rfl d_X_lessons_134
      refine zj_iconst (-1) d_X_lessons_96 (by decide) ?_
      exact zj_iret rfl rfl rfl rfl d_X_lessons_97
    refine zj_if_ne 85 d_X_lessons_44 rfl (fun _ => ?_) (fun _ => ?_)
    · refine zj_cut [some (zr g (some this)), none, some (.int a2)] ⟨rfl, ⟨rfl, trivial⟩⟩ ?_
      exact hj13 u6
    refine zj_aload_n d_X_lessons_47 rfl ?_
    refine zj_cVU (ci := 8) (T := zT8) (N := 16) [] zm_V_X_offerLessons ml_X_216 rfl (fun _ _ h => B_X_offerLessons g (d) h) (Nat.le_refl _) ⟨Nat.zero_le _, Nat.zero_le _⟩ rfl rfl (by decide) d_X_lessons_48 (fun u23 => ?_)
    refine zj_aload_n d_X_lessons_51 rfl ?_
    refine zj_getR fl_X_59 (fun _ _ _ _ => rfl) d_X_lessons_52 (fun v25 => ?_)
    refine zj_aload_n d_X_lessons_55 rfl ?_
    refine zj_getR fl_X_45 (fun _ _ _ _ => rfl) d_X_lessons_56 (fun v26 => ?_)
    refine zj_iload_n d_X_lessons_59 rfl ?_
    refine zj_iconst 1 d_X_lessons_60 (by decide) ?_
    refine zj_cVJp (ci := 1) (T := zT1) (N := 3) [.int a1, .int 1] zm_V_Cover_lacking ml_X_219 rfl (fun _ _ h => B_Cover_lacking g (d + 3) h) (Nat.le_refl _) ⟨Nat.zero_le _, Nat.zero_le _⟩ rfl rfl (by simp [zr_cat, zcI, zcJ]) d_X_lessons_61 (fun v27 => ?_)
    refine zj_aload_n d_X_lessons_64 rfl ?_
    refine zj_getR fl_X_45 (fun _ _ _ _ => rfl) d_X_lessons_65 (fun v29 => ?_)
    refine zj_iload_n d_X_lessons_68 rfl ?_
    refine zj_iconst 2 d_X_lessons_69 (by decide) ?_
    refine zj_cVJp (ci := 1) (T := zT1) (N := 3) [.int a1, .int 2] zm_V_Cover_lacking ml_X_219 rfl (fun _ _ h => B_Cover_lacking g (d + 3) h) (Nat.le_refl _) ⟨Nat.zero_le _, Nat.zero_le _⟩ rfl rfl (by simp [zr_cat, zcI, zcJ]) d_X_lessons_70 (fun v30 => ?_)
    refine zj_aload_n d_X_lessons_73 rfl ?_
    refine zj_getR fl_X_45 (fun _ _ _ _ => rfl) d_X_lessons_74 (fun v32 => ?_)
    refine zj_iload_n d_X_lessons_77 rfl ?_
    refine zj_iconst 3 d_X_lessons_78 (by decide) ?_
    refine zj_cVJp (ci := 1) (T := zT1) (N := 3) [.int a1, .int 3] zm_V_Cover_lacking ml_X_219 rfl (fun _ _ h => B_Cover_lacking g (d + 3) h) (Nat.le_refl _) ⟨Nat.zero_le _, Nat.zero_le _⟩ rfl rfl (by simp [zr_cat, zcI, zcJ]) d_X_lessons_79 (fun v33 => ?_)
    refine zj_cVU (ci := 0) (T := zT0) (N := 7) [.long v27, .long v30, .long v33] zm_V_Course_seek ml_X_223 rfl (fun _ _ h => B_Course_seek g (d + 2) h) (Nat.le_refl _) ⟨Nat.zero_le _, Nat.zero_le _⟩ rfl rfl (by decide) d_X_lessons_82 (fun u36 => ?_)
    refine zj_cut [some (zr g (some this)), none, some (.int a2)] ⟨rfl, ⟨rfl, trivial⟩⟩ ?_
    exact hj13 u36
  refine zj_bipush (-2) d_X_lessons_18 (by decide) ?_
  exact zj_iret rfl rfl rfl rfl d_X_lessons_20
