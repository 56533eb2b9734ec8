def F_X_planWithout (u0 : zS) (this : Nat) (a1 : Int32) : Option (Int32 × zS) := (zob u0 8 (some this)).bind fun q2 => (F_X_everyone u0 q2 ).bind fun v1 => (zob u0 8 (some this)).bind fun q5 => (F_X_lookAtGains u0 q5 (v1 &&& (a1 ^^^ (-1)))).bind fun u4 => (zgR u4 8 (some this) 9).bind fun v6 => (zob u4 4 v6).bind fun q9 => (F_Plan_reckon u4 q9 (v1 &&& (a1 ^^^ (-1))) 0).bind fun u8 => (zgR u8 8 (some this) 9).bind fun v10 => (zob u8 4 v10).bind fun q13 => (F_Plan_layDown u8 q13 (v1 &&& (a1 ^^^ (-1)))).bind <| zk fun v11 u12 => some (v11, u12)
set_option maxHeartbeats 4000000 in
set_option maxRecDepth 100000 in
theorem B_X_planWithout (g : zG) (d : Nat) {u0 : zS} {this : Nat} {a1 : Int32} {o : Int32 × zS} (h : F_X_planWithout u0 this a1 = some o) : zMt g zy_X_planWithout (d + 6) 0 0 [zr g (some this), .int a1] u0 (some (.int o.1)) o.2 := by
  refine zMt_of2 (ls := [some (zr g (some this)), some (.int a1), none]) 1 (by decide +kernel) (by simp [lg_sl, zr_cat, zcI, zcJ]) (by simp [zal, zr_cat, zcI, zcJ, List.replicate]) ?_
  revert h
  show zJ g zy_X_planWithout (d + 6) 0 0 zwI o 0 0 0 [some (zr g (some this)), some (.int a1), none] [] u0 (F_X_planWithout u0 this a1)
  unfold F_X_planWithout
  refine zj_aload_n d_X_planWithout_0 rfl ?_
  refine zj_cVIp (ci := 8) (T := zT8) (N := 16) [] zm_V_X_everyone ml_X_197 rfl (fun _ _ h => B_X_everyone g (d + 4) h) (Nat.le_refl _) ⟨Nat.zero_le _, Nat.zero_le _⟩ rfl rfl (by decide) d_X_planWithout_1 (fun v1 => ?_)
  refine zj_iload_n d_X_planWithout_4 rfl ?_
  refine zj_iconst (-1) d_X_planWithout_5 (by decide) ?_
  refine zj_ixor d_X_planWithout_6 ?_
  refine zj_iand d_X_planWithout_7 ?_
  refine zj_istore_n [some (zr g (some this)), some (.int a1), some (.int (v1 &&& (a1 ^^^ (-1))))] d_X_planWithout_8 (by decide) rfl rfl ?_
  refine zj_aload_n d_X_planWithout_9 rfl ?_
  refine zj_iload_n d_X_planWithout_10 rfl ?_
  refine zj_cVU (ci := 8) (T := zT8) (N := 16) [.int (v1 &&& (a1 ^^^ (-1)))] zm_V_X_lookAtGains ml_X_349 rfl (fun _ _ h => B_X_lookAtGains g (d) h) (Nat.le_refl _) ⟨Nat.zero_le _, Nat.zero_le _⟩ rfl rfl (by decide) d_X_planWithout_11 (fun u4 => ?_)
  refine zj_aload_n d_X_planWithout_14 rfl ?_
  refine zj_getR fl_X_52 (fun _ _ _ _ => rfl) d_X_planWithout_15 (fun v6 => ?_)
  refine zj_iload_n d_X_planWithout_18 rfl ?_
  refine zj_iconst 0 d_X_planWithout_19 (by decide) ?_
  refine zj_cVU (ci := 4) (T := zT4) (N := 5) [.int (v1 &&& (a1 ^^^ (-1))), .int 0] zm_V_Plan_reckon ml_X_352 rfl (fun _ _ h => B_Plan_reckon g (d + 2) h) (Nat.le_refl _) ⟨Nat.zero_le _, Nat.zero_le _⟩ rfl rfl (by decide) d_X_planWithout_20 (fun u8 => ?_)
  refine zj_aload_n d_X_planWithout_23 rfl ?_
  refine zj_getR fl_X_52 (fun _ _ _ _ => rfl) d_X_planWithout_24 (fun v10 => ?_)
  refine zj_iload_n d_X_planWithout_27 rfl ?_
  refine zj_cVI (ci := 4) (T := zT4) (N := 5) [.int (v1 &&& (a1 ^^^ (-1)))] zm_V_Plan_layDown ml_X_355 rfl (fun _ _ h => B_Plan_layDown g (d + 2) h) (Nat.le_refl _) ⟨Nat.zero_le _, Nat.zero_le _⟩ rfl rfl (by decide) d_X_planWithout_28 (fun v11 u12 => ?_)
  exact zj_iret rfl rfl rfl rfl d_X_planWithout_31
def F_X_poorestThatFills (u0 : zS) (this : Nat) (a1 : Int32) : Option (Int32 × zS) := (zob u0 8 (some this)).bind fun q2 => (F_X_everyone u0 q2 ).bind fun v1 => (zob u0 8 (some this)).bind fun q5 => (F_X_lookAtGains u0 q5 v1).bind fun u4 => (zgR u4 8 (some this) 9).bind fun v6 => (zob u4 8 (some this)).bind fun q8 => (F_X_everyone u4 q8 ).bind fun v7 => (zob u4 4 v6).bind fun q11 => (F_Plan_reckon u4 q11 v7 a1).bind fun u10 => zfix3 (fun (r12 : Int32 → Int32 → Int32 → Option (Int32 × zS)) (x13 : Int32) (x14 : Int32) (x15 : Int32) => (zob u10 8 (some this)).bind fun q17 => (F_X_everyone u10 q17 ).bind fun v16 => if v16 < x15 then (some (x13, u10)) else ((F_Integer_bitCount u10 x15).bind fun v18 => if v18 = a1 then ((zgR u10 8 (some this) 9).bind fun v19 => (zgR u10 4 v19 3).bind fun v20 => (zob u10 8 (some this)).bind fun q22 => (F_X_everyone u10 q22 ).bind fun v21 => (zaI u10 .int v20 (v21 &&& (x15 ^^^ (-1)))).bind fun v23 => if v23 = (-1) then (r12 x13 x14 (x15 + 1)) else (if x13 = (-1) then (r12 x15 v23 (x15 + 1)) else (if x14 ≤ v23 then (r12 x13 x14 (x15 + 1)) else (r12 x15 v23 (x15 + 1))))) else (r12 x13 x14 (x15 + 1)))) zFU (-1) 0 0
set_option maxHeartbeats 4000000 in
set_option maxRecDepth 100000 in
theorem B_X_poorestThatFills (g : zG) (d : Nat) {u0 : zS} {this : Nat} {a1 : Int32} {o : Int32 × zS} (h : F_X_poorestThatFills u0 this a1 = some o) : zMt g zy_X_poorestThatFills (d + 6) 0 0 [zr g (some this), .int a1] u0 (some (.int o.1)) o.2 := by
  refine zMt_of2 (ls := [some (zr g (some this)), some (.int a1), none, none, none, none]) 4 (by decide +kernel) (by simp [lg_sl, zr_cat, zcI, zcJ]) (by simp [zal, zr_cat, zcI, zcJ, List.replicate]) ?_
  revert h
  show zJ g zy_X_poorestThatFills (d + 6) 0 0 zwI o 0 0 0 [some (zr g (some this)), some (.int a1), none, none, none, none] [] u0 (F_X_poorestThatFills u0 this a1)
  unfold F_X_poorestThatFills
  refine zj_aload_n d_X_poorestThatFills_0 rfl ?_
  refine zj_aload_n d_X_poorestThatFills_1 rfl ?_
  refine zj_cVIp (ci := 8) (T := zT8) (N := 16) [] zm_V_X_everyone ml_X_197 rfl (fun _ _ h => B_X_everyone g (d + 4) h) (Nat.le_refl _) ⟨Nat.zero_le _, Nat.zero_le _⟩ rfl rfl (by simp [zr_cat, zcI, zcJ]) d_X_poorestThatFills_2 (fun v1 => ?_)
  refine zj_cVU (ci := 8) (T := zT8) (N := 16) [.int v1] zm_V_X_lookAtGains ml_X_349 rfl (fun _ _ h => B_X_lookAtGains g (d) h) (Nat.le_refl _) ⟨Nat.zero_le _, Nat.zero_le _⟩ rfl rfl (by decide) d_X_poorestThatFills_5 (fun u4 => ?_)
  refine zj_aload_n d_X_poorestThatFills_8 rfl ?_
  refine zj_getR fl_X_52 (fun _ _ _ _ => rfl) d_X_poorestThatFills_9 (fun v6 => ?_)
  refine zj_aload_n d_X_poorestThatFills_12 rfl ?_
  refine zj_cVIp (ci := 8) (T := zT8) (N := 16) [] zm_V_X_everyone ml_X_197 rfl (fun _ _ h => B_X_everyone g (d + 4) h) (Nat.le_refl _) ⟨Nat.zero_le _, Nat.zero_le _⟩ rfl rfl (by simp [zr_cat, zcI, zcJ]) d_X_poorestThatFills_13 (fun v7 => ?_)
  refine zj_iload_n d_X_poorestThatFills_16 rfl ?_
  refine zj_cVU (ci := 4) (T := zT4) (N := 5) [.int v7, .int a1] zm_V_Plan_reckon ml_X_352 rfl (fun _ _ h => B_Plan_reckon g (d + 2) h) (Nat.le_refl _) ⟨Nat.zero_le _, Nat.zero_le _⟩ rfl rfl (by decide) d_X_poorestThatFills_17 (fun u10 => ?_)
  refine zj_iconst (-1) d_X_poorestThatFills_20 (by decide) ?_
  refine zj_istore_n [some (zr g (some this)), some (.int a1), some (.int (-1)), none, none, none] d_X_poorestThatFills_21 (by decide) rfl rfl ?_
  refine zj_iconst 0 d_X_poorestThatFills_22 (by decide) ?_
  refine zj_istore_n [some (zr g (some this)), some (.int a1), some (.int (-1)), some (.int 0), none, none] d_X_poorestThatFills_23 (by decide) rfl rfl ?_
  refine zj_iconst 0 d_X_poorestThatFills_24 (by decide) ?_
  refine zj_istore [some (zr g (some this)), some (.int a1), some (.int (-1)), some (.int 0), some (.int 0), none] d_X_poorestThatFills_25 (by decide) rfl rfl ?_
  refine zj_fix3 (fun x13 x14 x15 => [some (zr g (some this)), some (.int a1), some (.int x13), some (.int x14), some (.int x15), none]) (fun x13 x14 x15 => u10) (fun r12 hr12 x13 x14 x15 => ?_) (-1) 0 0
  refine zj_iload d_X_poorestThatFills_27 rfl ?_
  refine zj_aload_n d_X_poorestThatFills_29 rfl ?_
  refine zj_cVIp (ci := 8) (T := zT8) (N := 16) [] zm_V_X_everyone ml_X_197 rfl (fun _ _ h => B_X_everyone g (d + 4) h) (Nat.le_refl _) ⟨Nat.zero_le _, Nat.zero_le _⟩ rfl rfl (by simp [zcI, zcJ]) d_X_poorestThatFills_30 (fun v16 => ?_)
  refine zj_icmp_gt 96 d_X_poorestThatFills_33 rfl (fun _ => ?_) (fun _ => ?_)
  · refine zj_iload_n d_X_poorestThatFills_96 rfl ?_
    exact zj_iret rfl rfl rfl rfl d_X_poorestThatFills_97
  refine zj_iload d_X_poorestThatFills_36 rfl ?_
  refine zj_cSIp [.int x15] zm_S_Integer_bitCount ml_X_301 (fun _ h => B_Integer_bitCount g (d + 4) h) (Nat.le_refl _) ⟨Nat.zero_le _, Nat.zero_le _⟩ rfl rfl (by decide) d_X_poorestThatFills_38 (fun v18 => ?_)
  refine zj_iload_n d_X_poorestThatFills_41 rfl ?_
  refine zj_icmp_eq 48 d_X_poorestThatFills_42 rfl (fun _ => ?_) (fun _ => ?_)
  · refine zj_aload_n d_X_poorestThatFills_48 rfl ?_
    refine zj_getR fl_X_52 (fun _ _ _ _ => rfl) d_X_poorestThatFills_49 (fun v19 => ?_)
    refine zj_getR fl_X_368 (fun _ _ _ _ => rfl) d_X_poorestThatFills_52 (fun v20 => ?_)
    refine zj_aload_n d_X_poorestThatFills_55 rfl ?_
    refine zj_cVIp (ci := 8) (T := zT8) (N := 16) [] zm_V_X_everyone ml_X_197 rfl (fun _ _ h => B_X_everyone g (d + 4) h) (Nat.le_refl _) ⟨Nat.zero_le _, Nat.zero_le _⟩ rfl rfl (by simp [zr_cat, zcI, zcJ]) d_X_poorestThatFills_56 (fun v21 => ?_)
    refine zj_iload d_X_poorestThatFills_59 rfl ?_
    refine zj_iconst (-1) d_X_poorestThatFills_61 (by decide) ?_
    refine zj_ixor d_X_poorestThatFills_62 ?_
    refine zj_iand d_X_poorestThatFills_63 ?_
    refine zj_iaload d_X_poorestThatFills_64 (fun v23 => ?_)
    refine zj_istore [some (zr g (some this)), some (.int a1), some (.int x13), some (.int x14), some (.int x15), some (.int v23)] d_X_poorestThatFills_65 (by decide) rfl rfl ?_
    refine zj_iload d_X_poorestThatFills_67 rfl ?_
    refine zj_iconst (-1) d_X_poorestThatFills_69 (by decide) ?_
    refine zj_icmp_eq 90 d_X_poorestThatFills_70 rfl (fun _ => ?_) (fun _ => ?_)
    · refine zj_iinc (v := (x15 + 1)) [some (zr g (some this)), some (.int a1), some (.int x13), some (.int x14), some (.int (x15 + 1)), some (.int v23)] d_X_poorestThatFills_90 rfl rfl (by decide) rfl rfl ?_
      refine zj_goto 27 d_X_poorestThatFills_93 rfl ?_
      refine zj_cut [some (zr g (some this)), some (.int a1), some (.int x13), some (.int x14), some (.int (x15 + 1)), none] ⟨rfl, ⟨rfl, ⟨rfl, ⟨rfl, ⟨rfl, trivial⟩⟩⟩⟩⟩ ?_
      exact hr12 x13 x14 (x15 + 1)
    refine zj_iload_n d_X_poorestThatFills_73 rfl ?_
    refine zj_iconst (-1) d_X_poorestThatFills_74 (by decide) ?_
    refine zj_icmp_eq 84 d_X_poorestThatFills_75 rfl (fun _ => ?_) (fun _ => ?_)
    · refine zj_iload d_X_poorestThatFills_84 rfl ?_
      refine zj_istore_n [some (zr g (some this)), some (.int a1), some (.int x15), some (.int x14), some (.int x15), some (.int v23)] d_X_poorestThatFills_86 (by decide) rfl rfl ?_
      refine zj_iload d_X_poorestThatFills_87 rfl ?_
      refine zj_istore_n [some (zr g (some this)), some (.int a1), some (.int x15), some (.int v23), some (.int x15), some (.int v23)] d_X_poorestThatFills_89 (by decide) rfl rfl ?_
      refine zj_iinc (v := (x15 + 1)) [some (zr g (some this)), some (.int a1), some (.int x15), some (.int v23), some (.int (x15 + 1)), some (.int v23)] d_X_poorestThatFills_90 rfl rfl (by decide) rfl rfl ?_
      refine zj_goto 27 d_X_poorestThatFills_93 rfl ?_
      refine zj_cut [some (zr g (some this)), some (.int a1), some (.int x15), some (.int v23), some (.int (x15 + 1)), none] ⟨rfl, ⟨rfl, ⟨rfl, ⟨rfl, ⟨rfl, trivial⟩⟩⟩⟩⟩ ?_
      exact hr12 x15 v23 (x15 + 1)
    refine zj_iload d_X_poorestThatFills_78 rfl ?_
    refine zj_iload_n d_X_poorestThatFills_80 rfl ?_
    refine zj_icmp_ge 90 d_X_poorestThatFills_81 rfl (fun _ => ?_) (fun _ => ?_)
    · refine zj_iinc (v := (x15 + 1)) [some (zr g (some this)), some (.int a1), some (.int x13), some (.int x14), some (.int (x15 + 1)), some (.int v23)] d_X_poorestThatFills_90 rfl rfl (by decide) rfl rfl ?_
      refine zj_goto 27 d_X_poorestThatFills_93 rfl ?_
      refine zj_cut [some (zr g (some this)), some (.int a1), some (.int x13), some (.int x14), some (.int (x15 + 1)), none] ⟨rfl, ⟨rfl, ⟨rfl, ⟨rfl, ⟨rfl, trivial⟩⟩⟩⟩⟩ ?_
      exact hr12 x13 x14 (x15 + 1)
    refine zj_iload d_X_poorestThatFills_84 rfl ?_
    refine zj_istore_n [some (zr g (some this)), some (.int a1), some (.int x15), some (.int x14), some (.int x15), some (.int v23)] d_X_poorestThatFills_86 (by decide) rfl rfl ?_
    refine zj_iload d_X_poorestThatFills_87 rfl ?_
    refine zj_istore_n [some (zr g (some this)), some (.int a1), some (.int x15), some (.int v23), some (.int x15), some (.int v23)] d_X_poorestThatFills_89 (by decide) rfl rfl ?_
    refine zj_iinc (v := (x15 + 1)) [some (zr g (some this)), some (.int a1), some (.int x15), some (.int v23), some (.int (x15 + 1)), some (.int v23)] d_X_poorestThatFills_90 rfl rfl (by decide) rfl rfl ?_
    refine zj_goto 27 d_X_poorestThatFills_93 rfl ?_
    refine zj_cut [some (zr g (some this)), some (.int a1), some (.int x15), some (.int v23), some (.int (x15 + 1)), none] ⟨rfl, ⟨rfl, ⟨rfl, ⟨rfl, ⟨rfl, trivial⟩⟩⟩⟩⟩ ?_
    exact hr12 x15 v23 (x15 + 1)
  refine zj_goto 90 d_X_poorestThatFills_45 rfl ?_
  refine zj_iinc (v := (x15 + 1)) [some (zr g (some this)), some (.int a1), some (.int x13), some (.int x14), some (.int (x15 + 1)), none] d_X_poorestThatFills_90 rfl rfl (by decide) rfl rfl ?_
  refine zj_goto 27 d_X_poorestThatFills_93 rfl ?_
  exact hr12 x13 x14 (x15 + 1)
def F_X_ring (u0 : zS) (this : Nat) : Option (Int32 × zS) := (zob u0 8 (some this)).bind fun q3 => (F_X_lookWhoCan u0 q3 ).bind fun u2 => zfix2 (fun (r4 : zS → Int32 → Option (Int32 × zS)) (u5 : zS) (x6 : Int32) => (zgI u5 8 (some this) 2).bind fun v7 => if v7 ≤ x6 then ((zgR u5 8 (some this) 8).bind fun v8 => (zob u5 1 v8).bind fun q11 => (F_Cover_spread u5 q11 ).bind fun u10 => zfix2 (fun (r12 : Int32 → Int32 → Option (Int32 × zS)) (x13 : Int32) (x14 : Int32) => (zgI u10 8 (some this) 2).bind fun v15 => if v15 < x14 then (some (x13, u10)) else ((zgR u10 8 (some this) 8).bind fun v16 => (zgI u10 8 (some this) 2).bind fun v17 => (zob u10 1 v16).bind fun q19 => (F_Cover_bears u10 q19 x14 v17).bind fun v18 => if v18 = 0 then (some (x13, u10)) else (r12 x14 (x14 + 1)))) zFU (-1) 0) else ((zgR u5 8 (some this) 1).bind fun v20 => (zgI u5 8 (some this) 2).bind fun v21 => zjn1 (fun (j23 : Int32 → Option (Int32 × zS)) => if v21 ≤ (x6 + 1) then (j23 0) else (j23 (x6 + 1))) (fun (x22 : Int32) => (zaR u5 "PostsFilled$Person" v20 x22).bind fun v24 => (zgI u5 3 v24 1).bind fun v25 => (zgR u5 8 (some this) 1).bind fun v26 => (zaR u5 "PostsFilled$Person" v26 x6).bind fun v27 => (zob u5 3 v27).bind fun q29 => (F_Person_isBarred u5 q29 v25).bind fun v28 => if v28 = 0 then ((zgR u5 8 (some this) 8).bind fun v30 => (zgR u5 1 v30 1).bind fun v31 => (zaI u5 .int v31 v25).bind fun v32 => (zsI u5 v31 v25 (v32 ||| ((1 : Int32) <<< (x6 &&& 31)))).bind fun u33 => r4 u33 (x6 + 1)) else (r4 u5 (x6 + 1))))) zFU u2 0
set_option maxHeartbeats 4000000 in
set_option maxRecDepth 100000 in
theorem B_X_ring (g : zG) (d : Nat) {u0 : zS} {this : Nat} {o : Int32 × zS} (h : F_X_ring u0 this = some o) : zMt g zy_X_ring (d + 6) 0 0 [zr g (some this)] u0 (some (.int o.1)) o.2 := by
  refine zMt_of2 (ls := [some (zr g (some this)), none, none]) 2 (by decide +kernel) (by simp [lg_sl, zr_cat, zcI, zcJ]) (by simp [zal, zr_cat, zcI, zcJ, List.replicate]) ?_
  revert h
  show zJ g zy_X_ring (d + 6) 0 0 zwI o 0 0 0 [some (zr g (some this)), none, none] [] u0 (F_X_ring u0 this)
  unfold F_X_ring
  refine zj_aload_n d_X_ring_0 rfl ?_
  refine zj_cVU (ci := 8) (T := zT8) (N := 16) [] zm_V_X_lookWhoCan ml_X_194 rfl (fun _ _ h => B_X_lookWhoCan g (d) h) (Nat.le_refl _) ⟨Nat.zero_le _, Nat.zero_le _⟩ rfl rfl (by decide) d_X_ring_1 (fun u2 => ?_)
  refine zj_iconst 0 d_X_ring_4 (by decide) ?_
  refine zj_istore_n [some (zr g (some this)), some (.int 0), none] d_X_ring_5 (by decide) rfl rfl ?_
  refine zj_fix2 (fun u5 x6 => [some (zr g (some this)), some (.int x6), none]) (fun u5 x6 => u5) (fun r4 hr4 u5 x6 => ?_) u2 0
  refine zj_iload_n d_X_ring_6 rfl ?_
  refine zj_aload_n d_X_ring_7 rfl ?_
  refine zj_getI fl_X_22 (fun _ _ _ _ => rfl) d_X_ring_8 (fun v7 => ?_)
  refine zj_icmp_ge 74 d_X_ring_11 rfl (fun _ => ?_) (fun _ => ?_)
  · refine zj_aload_n d_X_ring_74 rfl ?_
    refine zj_getR fl_X_45 (fun _ _ _ _ => rfl) d_X_ring_75 (fun v8 => ?_)
    refine zj_cVU (ci := 1) (T := zT1) (N := 3) [] zm_V_Cover_spread ml_X_239 rfl (fun _ _ h => B_Cover_spread g (d + 4) h) (Nat.le_refl _) ⟨Nat.zero_le _, Nat.zero_le _⟩ rfl rfl (by decide) d_X_ring_78 (fun u10 => ?_)
    refine zj_iconst (-1) d_X_ring_81 (by decide) ?_
    refine zj_istore_n [some (zr g (some this)), some (.int (-1)), none] d_X_ring_82 (by decide) rfl rfl ?_
    refine zj_iconst 0 d_X_ring_83 (by decide) ?_
    refine zj_istore_n [some (zr g (some this)), some (.int (-1)), some (.int 0)] d_X_ring_84 (by decide) rfl rfl ?_
    refine zj_fix2 (fun x13 x14 => [some (zr g (some this)), some (.int x13), some (.int x14)]) (fun x13 x14 => u10) (fun r12 hr12 x13 x14 => ?_) (-1) 0
    refine zj_iload_n d_X_ring_85 rfl ?_
    refine zj_aload_n d_X_ring_86 rfl ?_
    refine zj_getI fl_X_22 (fun _ _ _ _ => rfl) d_X_ring_87 (fun v15 => ?_)
    refine zj_icmp_gt 116 d_X_ring_90 rfl (fun _ => ?_) (fun _ => ?_)
    · refine zj_iload_n d_X_ring_116 rfl ?_
      exact zj_iret rfl rfl rfl rfl d_X_ring_117
    refine zj_aload_n d_X_ring_93 rfl ?_
    refine zj_getR fl_X_45 (fun _ _ _ _ => rfl) d_X_ring_94 (fun v16 => ?_)
    refine zj_iload_n d_X_ring_97 rfl ?_
    refine zj_aload_n d_X_ring_98 rfl ?_
    refine zj_getI fl_X_22 (fun _ _ _ _ => rfl) d_X_ring_99 (fun v17 => ?_)
    refine zj_cVIp (ci := 1) (T := zT1) (N := 3) [.int x14, .int v17] zm_V_Cover_bears ml_X_203 rfl (fun _ _ h => B_Cover_bears g (d + 2) h) (Nat.le_refl _) ⟨Nat.zero_le _, Nat.zero_le _⟩ rfl rfl (by decide) d_X_ring_102 (fun v18 => ?_)
    refine zj_if_eq 116 d_X_ring_105 rfl (fun _ => ?_) (fun _ => ?_)
    · refine zj_iload_n d_X_ring_116 rfl ?_
      exact zj_iret rfl rfl rfl rfl d_X_ring_117
    refine zj_iload_n d_X_ring_108 rfl ?_
    refine zj_istore_n [some (zr g (some this)), some (.int x14), some (.int x14)] d_X_ring_109 (by decide) rfl rfl ?_
    refine zj_iinc (v := (x14 + 1)) [some (zr g (some this)), some (.int x14), some (.int (x14 + 1))] d_X_ring_110 rfl rfl (by decide) rfl rfl ?_
    refine zj_goto 85 d_X_ring_113 rfl ?_
    exact hr12 x14 (x14 + 1)
  refine zj_aload_n d_X_ring_14 rfl ?_
  refine zj_getR fl_X_18 (fun _ _ _ _ => rfl) d_X_ring_15 (fun v20 => ?_)
  refine zj_iload_n d_X_ring_18 rfl ?_
  refine zj_iconst 1 d_X_ring_19 (by decide) ?_
  refine zj_iadd d_X_ring_20 ?_
  refine zj_aload_n d_X_ring_21 rfl ?_
  refine zj_getI fl_X_22 (fun _ _ _ _ => rfl) d_X_ring_22 (fun v21 => ?_)
  refine zj_jn1 (pcj := 35) (fun x22 => [some (zr g (some this)), some (.int x6), none]) (fun x22 => [.int x22, zr g v20]) (fun x22 => u5) (fun x22 => ?_) (fun j23 hj23 => ?_)
  · refine zj_aaload 4 rfl d_X_ring_35 (fun v24 => ?_)
    refine zj_getI fl_X_138 (fun _ _ _ _ => rfl) d_X_ring_36 (fun v25 => ?_)
    refine zj_istore_n [some (zr g (some this)), some (.int x6), some (.int v25)] d_X_ring_39 (by decide) rfl rfl ?_
    refine zj_aload_n d_X_ring_40 rfl ?_
    refine zj_getR fl_X_18 (fun _ _ _ _ => rfl) d_X_ring_41 (fun v26 => ?_)
    refine zj_iload_n d_X_ring_44 rfl ?_
    refine zj_aaload 4 rfl d_X_ring_45 (fun v27 => ?_)
    refine zj_iload_n d_X_ring_46 rfl ?_
    refine zj_cVIp (ci := 3) (T := zT3) (N := 10) [.int v25] zm_V_Person_isBarred ml_X_135 rfl (fun _ _ h => B_Person_isBarred g (d + 4) h) (Nat.le_refl _) ⟨Nat.zero_le _, Nat.zero_le _⟩ rfl rfl (by decide) d_X_ring_47 (fun v28 => ?_)
    refine zj_if_ne 68 d_X_ring_50 rfl (fun _ => ?_) (fun _ => ?_)
    · refine zj_iinc (v := (x6 + 1)) [some (zr g (some this)), some (.int (x6 + 1)), some (.int v25)] d_X_ring_68 rfl rfl (by decide) rfl rfl ?_
      refine zj_goto 6 d_X_ring_71 rfl ?_
      refine zj_cut [some (zr g (some this)), some (.int (x6 + 1)), none] ⟨rfl, ⟨rfl, trivial⟩⟩ ?_
      exact hr4 u5 (x6 + 1)
    refine zj_aload_n d_X_ring_53 rfl ?_
    refine zj_getR fl_X_45 (fun _ _ _ _ => rfl) d_X_ring_54 (fun v30 => ?_)
    refine zj_getR fl_X_236 (fun _ _ _ _ => rfl) d_X_ring_57 (fun v31 => ?_)
    refine zj_iload_n d_X_ring_60 rfl ?_
    refine zj_dup2 d_X_ring_61 rfl (zr_cat _ _) ?_
    refine zj_iaload d_X_ring_62 (fun v32 => ?_)
    refine zj_iconst 1 d_X_ring_63 (by decide) ?_
    refine zj_iload_n d_X_ring_64 rfl ?_
    refine zj_ishl d_X_ring_65 ?_
    refine zj_ior d_X_ring_66 ?_
    refine zj_iastore d_X_ring_67 (fun u33 => ?_)
    refine zj_iinc (v := (x6 + 1)) [some (zr g (some this)), some (.int (x6 + 1)), some (.int v25)] d_X_ring_68 rfl rfl (by decide) rfl rfl ?_
    refine zj_goto 6 d_X_ring_71 rfl ?_
    refine zj_cut [some (zr g (some this)), some (.int (x6 + 1)), none] ⟨rfl, ⟨rfl, trivial⟩⟩ ?_
    exact hr4 u33 (x6 + 1)
  refine zj_icmp_ge 34 d_X_ring_25 rfl (fun _ => ?_) (fun _ => ?_)
  · refine zj_iconst 0 d_X_ring_34 (by decide) ?_
    exact hj23 0
  refine zj_iload_n d_X_ring_28 rfl ?_
  refine zj_iconst 1 d_X_ring_29 (by decide) ?_
  refine zj_iadd d_X_ring_30 ?_
  refine zj_goto 35 d_X_ring_31 rfl ?_
  exact hj23 (x6 + 1)
def F_X_sure (u0 : zS) (this : Nat) (a1 : Int32) : Option (Int64 × zS) := (F_X_isFlag u0 a1).bind fun v1 => if v1 = 0 then (some ((-4611686018427387904), u0)) else ((zob u0 8 (some this)).bind fun q4 => (F_X_lookWhoCan u0 q4 ).bind fun u3 => zfix2 (fun (r5 : Int64 → Int32 → Option (Int64 × zS)) (x6 : Int64) (x7 : Int32) => (zgI u3 8 (some this) 2).bind fun v8 => if v8 ≤ x7 then (zfix2 (fun (r9 : Int64 → Int32 → Option (Int64 × zS)) (x10 : Int64) (x11 : Int32) => (zob u3 8 (some this)).bind fun q13 => (F_X_everyone u3 q13 ).bind fun v12 => if v12 < x11 then ((F_X_commonDivisor u3 x6 x10).bind fun v14 => zjn1 (fun (j16 : Int64 → Option (Int64 × zS)) => if a1 = 0 then (j16 x10) else (j16 x6)) (fun (x15 : Int64) => if (lg_cmp v14 0) ≤ 0 then (if 1 = 0 then none else some ((x15 / 1), u3)) else (if v14 = 0 then none else some ((x15 / v14), u3)))) else ((zgR u3 8 (some this) 8).bind fun v17 => (zob u3 8 (some this)).bind fun q19 => (F_X_everyone u3 q19 ).bind fun v18 => (zob u3 1 v17).bind fun q21 => (F_Cover_tooFew u3 q21 (v18 &&& (x11 ^^^ (-1)))).bind fun v20 => if v20 = (-1) then ((zob u3 8 (some this)).bind fun q23 => (F_X_tenthsOf u3 q23 x11).bind fun v22 => r9 (x10 + v22) (x11 + 1)) else (r9 x10 (x11 + 1)))) zFU 0 0) else (r5 (x6 * 10) (x7 + 1))) zFU 1 0)
set_option maxHeartbeats 4000000 in
set_option maxRecDepth 100000 in
theorem B_X_sure (g : zG) (d : Nat) {u0 : zS} {this : Nat} {a1 : Int32} {o : Int64 × zS} (h : F_X_sure u0 this a1 = some o) : zMt g zy_X_sure (d + 6) 0 0 [zr g (some this), .int a1] u0 (some (.long o.1)) o.2 := by
  refine zMt_of2 (ls := [some (zr g (some this)), some (.int a1), none, none, none, none, none, none]) 6 (by decide +kernel) (by simp [lg_sl, zr_cat, zcI, zcJ]) (by simp [zal, zr_cat, zcI, zcJ, List.replicate]) ?_
  revert h
  show zJ g zy_X_sure (d + 6) 0 0 zwJ o 0 0 0 [some (zr g (some this)), some (.int a1), none, none, none, none, none, none] [] u0 (F_X_sure u0 this a1)
  unfold F_X_sure
  refine zj_iload_n d_X_sure_0 rfl ?_
  refine zj_cSIp [.int a1] zm_S_X_isFlag ml_X_114 (fun _ h => B_X_isFlag g (d + 4) h) (Nat.le_refl _) ⟨Nat.zero_le _, Nat.zero_le _⟩ rfl rfl (by decide) d_X_sure_1 (fun v1 => ?_)
  refine zj_if_ne 11 d_X_sure_4 rfl (fun _ => ?_) (fun _ => ?_)
  · refine zj_aload_n d_X_sure_11 rfl ?_
    refine zj_cVU (ci := 8) (T := zT8) (N := 16) [] zm_V_X_lookWhoCan ml_X_194 rfl (fun _ _ h => B_X_lookWhoCan g (d) h) (Nat.le_refl _) ⟨Nat.zero_le _, Nat.zero_le _⟩ rfl rfl (by decide) d_X_sure_12 (fun u3 => ?_)
    refine zj_lconst 0 d_X_sure_15 (by decide) ?_
    refine zj_lstore_n [some (zr g (some this)), some (.int a1), some (.long 0), none, none, none, none, none] d_X_sure_16 (by decide) rfl rfl ?_
    refine zj_lconst 1 d_X_sure_17 (by decide) ?_
    refine zj_lstore [some (zr g (some this)), some (.int a1), some (.long 0), none, some (.long 1), none, none, none] d_X_sure_18 (by decide) rfl rfl ?_
    refine zj_iconst 0 d_X_sure_20 (by decide) ?_
    refine zj_istore [some (zr g (some this)), some (.int a1), some (.long 0), none, some (.long 1), none, some (.int 0), none] d_X_sure_21 (by decide) rfl rfl ?_
    refine zj_fix2 (fun x6 x7 => [some (zr g (some this)), some (.int a1), some (.long 0), none, some (.long x6), none, some (.int x7), none]) (fun x6 x7 => u3) (fun r5 hr5 x6 x7 => ?_) 1 0
    refine zj_iload d_X_sure_23 rfl ?_
    refine zj_aload_n d_X_sure_25 rfl ?_
    refine zj_getI fl_X_22 (fun _ _ _ _ => rfl) d_X_sure_26 (fun v8 => ?_)
    refine zj_icmp_ge 46 d_X_sure_29 rfl (fun _ => ?_) (fun _ => ?_)
    · refine zj_iconst 0 d_X_sure_46 (by decide) ?_
      refine zj_istore [some (zr g (some this)), some (.int a1), some (.long 0), none, some (.long x6), none, some (.int 0), none] d_X_sure_47 (by decide) rfl rfl ?_
      refine zj_fix2 (fun x10 x11 => [some (zr g (some this)), some (.int a1), some (.long x10), none, some (.long x6), none, some (.int x11), none]) (fun x10 x11 => u3) (fun r9 hr9 x10 x11 => ?_) 0 0
      refine zj_iload d_X_sure_49 rfl ?_
      refine zj_aload_n d_X_sure_51 rfl ?_
      refine zj_cVIp (ci := 8) (T := zT8) (N := 16) [] zm_V_X_everyone ml_X_197 rfl (fun _ _ h => B_X_everyone g (d + 4) h) (Nat.le_refl _) ⟨Nat.zero_le _, Nat.zero_le _⟩ rfl rfl (by simp [zcI, zcJ]) d_X_sure_52 (fun v12 => ?_)
      refine zj_icmp_gt 93 d_X_sure_55 rfl (fun _ => ?_) (fun _ => ?_)
      · refine zj_lload d_X_sure_93 rfl ?_
        refine zj_lload_n d_X_sure_95 rfl ?_
        refine zj_cSJp [.long x6, .long x10] zm_S_X_commonDivisor ml_X_250 (fun _ h => B_X_commonDivisor g (d + 4) h) (Nat.le_refl _) ⟨Nat.zero_le _, Nat.zero_le _⟩ rfl rfl (by decide) d_X_sure_96 (fun v14 => ?_)
        refine zj_lstore [some (zr g (some this)), some (.int a1), some (.long x10), none, some (.long x6), none, some (.long v14), none] d_X_sure_99 (by decide) rfl rfl ?_
        refine zj_iload_n d_X_sure_101 rfl ?_
        refine zj_jn1 (pcj := 111) (fun x15 => [none, none, none, none, none, none, some (.long v14), none]) (fun x15 => [.long x15]) (fun x15 => u3) (fun x15 => ?_) (fun j16 hj16 => ?_)
        · refine zj_lload d_X_sure_111 rfl ?_
          refine zj_lconst 0 d_X_sure_113 (by decide) ?_
          refine zj_lcmp d_X_sure_114 ?_
          refine zj_if_le 123 d_X_sure_115 rfl (fun _ => ?_) (fun _ => ?_)
          · refine zj_lconst 1 d_X_sure_123 (by decide) ?_
            refine zj_ldivQ d_X_sure_124 ?_
            exact zj_lret rfl rfl rfl rfl d_X_sure_125
          refine zj_lload d_X_sure_118 rfl ?_
          refine zj_goto 124 d_X_sure_120 rfl ?_
          refine zj_ldivQ d_X_sure_124 ?_
          exact zj_lret rfl rfl rfl rfl d_X_sure_125
        refine zj_if_ne 109 d_X_sure_102 rfl (fun _ => ?_) (fun _ => ?_)
        · refine zj_lload d_X_sure_109 rfl ?_
          refine zj_cut [none, none, none, none, none, none, some (.long v14), none] ⟨rfl, trivial⟩ ?_
          exact hj16 x6
        refine zj_lload_n d_X_sure_105 rfl ?_
        refine zj_goto 111 d_X_sure_106 rfl ?_
        refine zj_cut [none, none, none, none, none, none, some (.long v14), none] ⟨rfl, trivial⟩ ?_
        exact hj16 x10
      refine zj_aload_n d_X_sure_58 rfl ?_
      refine zj_getR fl_X_45 (fun _ _ _ _ => rfl) d_X_sure_59 (fun v17 => ?_)
      refine zj_aload_n d_X_sure_62 rfl ?_
      refine zj_cVIp (ci := 8) (T := zT8) (N := 16) [] zm_V_X_everyone ml_X_197 rfl (fun _ _ h => B_X_everyone g (d + 4) h) (Nat.le_refl _) ⟨Nat.zero_le _, Nat.zero_le _⟩ rfl rfl (by simp [zr_cat, zcI, zcJ]) d_X_sure_63 (fun v18 => ?_)
      refine zj_iload d_X_sure_66 rfl ?_
      refine zj_iconst (-1) d_X_sure_68 (by decide) ?_
      refine zj_ixor d_X_sure_69 ?_
      refine zj_iand d_X_sure_70 ?_
      refine zj_cVIp (ci := 1) (T := zT1) (N := 3) [.int (v18 &&& (x11 ^^^ (-1)))] zm_V_Cover_tooFew ml_X_200 rfl (fun _ _ h => B_Cover_tooFew g (d + 3) h) (Nat.le_refl _) ⟨Nat.zero_le _, Nat.zero_le _⟩ rfl rfl (by decide) d_X_sure_71 (fun v20 => ?_)
      refine zj_iconst (-1) d_X_sure_74 (by decide) ?_
      refine zj_icmp_ne 87 d_X_sure_75 rfl (fun _ => ?_) (fun _ => ?_)
      · refine zj_iinc (v := (x11 + 1)) [some (zr g (some this)), some (.int a1), some (.long x10), none, some (.long x6), none, some (.int (x11 + 1)), none] d_X_sure_87 rfl rfl (by decide) rfl rfl ?_
        refine zj_goto 49 d_X_sure_90 rfl ?_
        exact hr9 x10 (x11 + 1)
      refine zj_lload_n d_X_sure_78 rfl ?_
      refine zj_aload_n d_X_sure_79 rfl ?_
      refine zj_iload d_X_sure_80 rfl ?_
      refine zj_cVJp (ci := 8) (T := zT8) (N := 16) [.int x11] zm_V_X_tenthsOf ml_X_246 rfl (fun _ _ h => B_X_tenthsOf g (d + 4) h) (Nat.le_refl _) ⟨Nat.zero_le _, Nat.zero_le _⟩ rfl rfl (by simp [zcI, zcJ]) d_X_sure_82 (fun v22 => ?_)
      refine zj_ladd d_X_sure_85 ?_
      refine zj_lstore_n [some (zr g (some this)), some (.int a1), some (.long (x10 + v22)), none, some (.long x6), none, some (.int x11), none] d_X_sure_86 (by decide) rfl rfl ?_
      refine zj_iinc (v := (x11 + 1)) [some (zr g (some this)), some (.int a1), some (.long (x10 + v22)), none, some (.long x6), none, some (.int (x11 + 1)), none] d_X_sure_87 rfl rfl (by decide) rfl rfl ?_
      refine zj_goto 49 d_X_sure_90 rfl ?_
      exact hr9 (x10 + v22) (x11 + 1)
    refine zj_lload d_X_sure_32 rfl ?_
    refine zj_ldc2 cl_X_244 d_X_sure_34 ?_
    refine zj_lmul d_X_sure_37 ?_
    refine zj_lstore [some (zr g (some this)), some (.int a1), some (.long 0), none, some (.long (x6 * 10)), none, some (.int x7), none] d_X_sure_38 (by decide) rfl rfl ?_
    refine zj_iinc (v := (x7 + 1)) [some (zr g (some this)), some (.int a1), some (.long 0), none, some (.long (x6 * 10)), none, some (.int (x7 + 1)), none] d_X_sure_40 rfl rfl (by decide) rfl rfl ?_
    refine zj_goto 23 d_X_sure_43 rfl ?_
    exact hr5 (x6 * 10) (x7 + 1)
  refine zj_ldc2 cl_X_242 d_X_sure_7 ?_
  exact zj_lret rfl rfl rfl rfl d_X_sure_10
def F_X_told (u0 : zS) (this : Nat) (a1 : Int32) (a2 : Int32) (a3 : Int32) : Option (Int32 × zS) := (zob u0 8 (some this)).bind fun q2 => (F_X_isPerson u0 q2 a1).bind fun v1 => if v1 = 0 then (some ((-5), u0)) else (if a3 < 0 then (some ((-5), u0)) else (if 9 < a3 then (some ((-5), u0)) else (if a3 < 7 then ((zgR u0 8 (some this) 1).bind fun v3 => (zaR u0 "PostsFilled$Person" v3 a1).bind fun v4 => if a3 = 0 then ((zgI u0 3 v4 0).bind fun v6 => some (v6, u0)) else if a3 = 1 then ((zgI u0 3 v4 1).bind fun v8 => some (v8, u0)) else if a3 = 2 then ((zgI u0 3 v4 2).bind fun v10 => some (v10, u0)) else if a3 = 3 then ((zgI u0 3 v4 3).bind fun v12 => some (v12, u0)) else if a3 = 4 then ((zob u0 3 v4).bind fun q15 => (F_Person_keeps u0 q15 ).bind fun v14 => some (v14, u0)) else if a3 = 5 then ((zgR u0 8 (some this) 0).bind fun v17 => (zob u0 3 v4).bind fun q19 => (F_Person_counts u0 q19 v17).bind fun v18 => some (v18, u0)) else if a3 = 6 then ((zgI u0 3 v4 4).bind fun v21 => some (v21, u0)) else if a3 = 7 then ((zgR u0 8 (some this) 0).bind fun v23 => (zob u0 3 v4).bind fun q25 => (F_Person_can u0 q25 a2 v23).bind fun v24 => if v24 = 0 then (some (0, u0)) else (some (1, u0))) else if a3 = 8 then ((zob u0 8 (some this)).bind fun q29 => (F_X_wellOf u0 q29 v4 a2).bind <| zk fun v27 u28 => some (v27, u28)) else ((zob u0 8 (some this)).bind fun q32 => (F_X_costOf u0 q32 v4 a2).bind <| zk fun v30 u31 => some (v30, u31))) else ((zgR u0 8 (some this) 0).bind fun v33 => (zob u0 2 v33).bind fun q35 => (F_Office_has u0 q35 a2).bind fun v34 => if v34 = 0 then (some ((-5), u0)) else ((zgR u0 8 (some this) 1).bind fun v36 => (zaR u0 "PostsFilled$Person" v36 a1).bind fun v37 => if a3 = 0 then ((zgI u0 3 v37 0).bind fun v39 => some (v39, u0)) else if a3 = 1 then ((zgI u0 3 v37 1).bind fun v41 => some (v41, u0)) else if a3 = 2 then ((zgI u0 3 v37 2).bind fun v43 => some (v43, u0)) else if a3 = 3 then ((zgI u0 3 v37 3).bind fun v45 => some (v45, u0)) else if a3 = 4 then ((zob u0 3 v37).bind fun q48 => (F_Person_keeps u0 q48 ).bind fun v47 => some (v47, u0)) else if a3 = 5 then ((zgR u0 8 (some this) 0).bind fun v50 => (zob u0 3 v37).bind fun q52 => (F_Person_counts u0 q52 v50).bind fun v51 => some (v51, u0)) else if a3 = 6 then ((zgI u0 3 v37 4).bind fun v54 => some (v54, u0)) else if a3 = 7 then ((zgR u0 8 (some this) 0).bind fun v56 => (zob u0 3 v37).bind fun q58 => (F_Person_can u0 q58 a2 v56).bind fun v57 => if v57 = 0 then (some (0, u0)) else (some (1, u0))) else if a3 = 8 then ((zob u0 8 (some this)).bind fun q62 => (F_X_wellOf u0 q62 v37 a2).bind <| zk fun v60 u61 => some (v60, u61)) else ((zob u0 8 (some this)).bind fun q65 => (F_X_costOf u0 q65 v37 a2).bind <| zk fun v63 u64 => some (v63, u64)))))))
set_option maxHeartbeats 4000000 in
set_option maxRecDepth 100000 in
theorem B_X_told (g : zG) (d : Nat) {u0 : zS} {this : Nat} {a1 : Int32} {a2 : Int32} {a3 : Int32} {o : Int32 × zS} (h : F_X_told u0 this a1 a2 a3 = some o) : zMt g zy_X_told (d + 6) 0 0 [zr g (some this), .int a1, .int a2, .int a3] u0 (some (.int o.1)) o.2 := by
  refine zMt_of2 (ls := [some (zr g (some this)), some (.int a1), some (.int a2), some (.int a3), none]) 1 (by decide +kernel) (by simp [lg_sl, zr_cat, zcI, zcJ]) (by simp [zal, zr_cat, zcI, zcJ, List.replicate]) ?_
  revert h
  show zJ g zy_X_told (d + 6) 0 0 zwI o 0 0 0 [some (zr g (some this)), some (.int a1), some (.int a2), some (.int a3), none] [] u0 (F_X_told u0 this a1 a2 a3)
  unfold F_X_told
  refine zj_aload_n d_X_told_0 rfl ?_
  refine zj_iload_n d_X_told_1 rfl ?_
  refine zj_cVIp (ci := 8) (T := zT8) (N := 16) [.int a1] zm_V_X_isPerson ml_X_129 rfl (fun _ _ h => B_X_isPerson g (d + 4) h) (Nat.le_refl _) ⟨Nat.zero_le _, Nat.zero_le _⟩ rfl rfl (by decide) d_X_told_2 (fun v1 => ?_)
  refine zj_if_eq 35 d_X_told_5 rfl (fun _ => ?_) (fun _ => ?_)
  · refine zj_bipush (-5) d_X_told_35 (by decide) ?_
    exact zj_iret rfl rfl rfl rfl d_X_told_37
  refine zj_iload_n d_X_told_8 rfl ?_
  refine zj_if_lt 35 d_X_told_9 rfl (fun _ => ?_) (fun _ => ?_)
  · refine zj_bipush (-5) d_X_told_35 (by decide) ?_
    exact zj_iret rfl rfl rfl rfl d_X_told_37
  refine zj_iload_n d_X_told_12 rfl ?_
  refine zj_bipush 9 d_X_told_13 (by decide) ?_
  refine zj_icmp_gt 35 d_X_told_15 rfl (fun _ => ?_) (fun _ => ?_)
  · refine zj_bipush (-5) d_X_told_35 (by decide) ?_
    exact zj_iret rfl rfl rfl rfl d_X_told_37
  refine zj_iload_n d_X_told_18 rfl ?_
  refine zj_bipush 7 d_X_told_19 (by decide) ?_
  refine zj_icmp_lt 38 d_X_told_21 rfl (fun _ => ?_) (fun _ => ?_)
  · refine zj_aload_n d_X_told_38 rfl ?_
    refine zj_getR fl_X_18 (fun _ _ _ _ => rfl) d_X_told_39 (fun v3 => ?_)
    refine zj_iload_n d_X_told_42 rfl ?_
    refine zj_aaload 4 rfl d_X_told_43 (fun v4 => ?_)
    refine zj_astore [some (zr g (some this)), some (.int a1), some (.int a2), some (.int a3), some (zr g v4)] d_X_told_44 (by decide) rfl rfl ?_
    refine zj_iload_n d_X_told_46 rfl ?_
    refine zj_tsw 0 (0) 96 d_X_told_47 (by decide) (by decide) (by decide) rfl rfl (fun _ => ?_) (fun h5 => ?_)
    · refine zj_aload d_X_told_96 rfl ?_
      refine zj_getI fl_X_151 (fun _ _ _ _ => rfl) d_X_told_98 (fun v6 => ?_)
      exact zj_iret rfl rfl rfl rfl d_X_told_101
    refine zj_tsw 1 (1) 102 d_X_told_47 (by decide) (by decide) (by decide) rfl rfl (fun _ => ?_) (fun h7 => ?_)
    · refine zj_aload d_X_told_102 rfl ?_
      refine zj_getI fl_X_138 (fun _ _ _ _ => rfl) d_X_told_104 (fun v8 => ?_)
      exact zj_iret rfl rfl rfl rfl d_X_told_107
    refine zj_tsw 2 (2) 108 d_X_told_47 (by decide) (by decide) (by decide) rfl rfl (fun _ => ?_) (fun h9 => ?_)
    · refine zj_aload d_X_told_108 rfl ?_
      refine zj_getI fl_X_154 (fun _ _ _ _ => rfl) d_X_told_110 (fun v10 => ?_)
      exact zj_iret rfl rfl rfl rfl d_X_told_113
    refine zj_tsw 3 (3) 114 d_X_told_47 (by decide) (by decide) (by decide) rfl rfl (fun _ => ?_) (fun h11 => ?_)
    · refine zj_aload d_X_told_114 rfl ?_
      refine zj_getI fl_X_157 (fun _ _ _ _ => rfl) d_X_told_116 (fun v12 => ?_)
      exact zj_iret rfl rfl rfl rfl d_X_told_119
    refine zj_tsw 4 (4) 120 d_X_told_47 (by decide) (by decide) (by decide) rfl rfl (fun _ => ?_) (fun h13 => ?_)
    · refine zj_aload d_X_told_120 rfl ?_
      refine zj_cVIp (ci := 3) (T := zT3) (N := 10) [] zm_V_Person_keeps ml_X_160 rfl (fun _ _ h => B_Person_keeps g (d + 3) h) (Nat.le_refl _) ⟨Nat.zero_le _, Nat.zero_le _⟩ rfl rfl (by decide) d_X_told_122 (fun v14 => ?_)
      exact zj_iret rfl rfl rfl rfl d_X_told_125
    refine zj_tsw 5 (5) 126 d_X_told_47 (by decide) (by decide) (by decide) rfl rfl (fun _ => ?_) (fun h16 => ?_)
    · refine zj_aload d_X_told_126 rfl ?_
      refine zj_aload_n d_X_told_128 rfl ?_
      refine zj_getR fl_X_10 (fun _ _ _ _ => rfl) d_X_told_129 (fun v17 => ?_)
      refine zj_cVIp (ci := 3) (T := zT3) (N := 10) [zr g v17] zm_V_Person_counts ml_X_163 rfl (fun _ _ h => B_Person_counts g (d) h) (Nat.le_refl _) ⟨Nat.zero_le _, Nat.zero_le _⟩ rfl rfl (by decide) d_X_told_132 (fun v18 => ?_)
      exact zj_iret rfl rfl rfl rfl d_X_told_135
    refine zj_tsw 6 (6) 136 d_X_told_47 (by decide) (by decide) (by decide) rfl rfl (fun _ => ?_) (fun h20 => ?_)
    · refine zj_aload d_X_told_136 rfl ?_
      refine zj_getI fl_X_167 (fun _ _ _ _ => rfl) d_X_told_138 (fun v21 => ?_)
      exact zj_iret rfl rfl rfl rfl d_X_told_141
    refine zj_tsw 7 (7) 142 d_X_told_47 (by decide) (by decide) (by decide) rfl rfl (fun _ => ?_) (fun h22 => ?_)
    · refine zj_aload d_X_told_142 rfl ?_
      refine zj_iload_n d_X_told_144 rfl ?_
      refine zj_aload_n d_X_told_145 rfl ?_
      refine zj_getR fl_X_10 (fun _ _ _ _ => rfl) d_X_told_146 (fun v23 => ?_)
      refine zj_cVIp (ci := 3) (T := zT3) (N := 10) [.int a2, zr g v23] zm_V_Person_can ml_X_170 rfl (fun _ _ h => B_Person_can g (d + 1) h) (Nat.le_refl _) ⟨Nat.zero_le _, Nat.zero_le _⟩ rfl rfl (by decide) d_X_told_149 (fun v24 => ?_)
      refine zj_if_eq 159 d_X_told_152 rfl (fun _ => ?_) (fun _ => ?_)
      · refine zj_iconst 0 d_X_told_159 (by decide) ?_
        exact zj_iret rfl rfl rfl rfl d_X_told_160
      refine zj_iconst 1 d_X_told_155 (by decide) ?_
      refine zj_goto 160 d_X_told_156 rfl ?_
      exact zj_iret rfl rfl rfl rfl d_X_told_160
    refine zj_tsw 8 (8) 161 d_X_told_47 (by decide) (by decide) (by decide) rfl rfl (fun _ => ?_) (fun h26 => ?_)
    · refine zj_aload_n d_X_told_161 rfl ?_
      refine zj_aload d_X_told_162 rfl ?_
      refine zj_iload_n d_X_told_164 rfl ?_
      refine zj_cVI (ci := 8) (T := zT8) (N := 16) [zr g v4, .int a2] zm_V_X_wellOf ml_X_174 rfl (fun _ _ h => B_X_wellOf g (d + 1) h) (Nat.le_refl _) ⟨Nat.zero_le _, Nat.zero_le _⟩ rfl rfl (by decide) d_X_told_165 (fun v27 u28 => ?_)
      exact zj_iret rfl rfl rfl rfl d_X_told_168
    refine zj_tswD 169 d_X_told_47 (by have e0 := lv_neT h5 (show (0 : Int32).toInt = 0 by decide); have e1 := lv_neT h7 (show (1 : Int32).toInt = 1 by decide); have e2 := lv_neT h9 (show (2 : Int32).toInt = 2 by decide); have e3 := lv_neT h11 (show (3 : Int32).toInt = 3 by decide); have e4 := lv_neT h13 (show (4 : Int32).toInt = 4 by decide); have e5 := lv_neT h16 (show (5 : Int32).toInt = 5 by decide); have e6 := lv_neT h20 (show (6 : Int32).toInt = 6 by decide); have e7 := lv_neT h22 (show (7 : Int32).toInt = 7 by decide); have e8 := lv_neT h26 (show (8 : Int32).toInt = 8 by decide); omega) rfl ?_
    refine zj_aload_n d_X_told_169 rfl ?_
    refine zj_aload d_X_told_170 rfl ?_
    refine zj_iload_n d_X_told_172 rfl ?_
    refine zj_cVI (ci := 8) (T := zT8) (N := 16) [zr g v4, .int a2] zm_V_X_costOf ml_X_178 rfl (fun _ _ h => B_X_costOf g (d + 1) h) (Nat.le_refl _) ⟨Nat.zero_le _, Nat.zero_le _⟩ rfl rfl (by decide) d_X_told_173 (fun v30 u31 => ?_)
    exact zj_iret rfl rfl rfl rfl d_X_told_176
  refine zj_aload_n d_X_told_24 rfl ?_
  refine zj_getR fl_X_10 (fun _ _ _ _ => rfl) d_X_told_25 (fun v33 => ?_)
  refine zj_iload_n d_X_told_28 rfl ?_
  refine zj_cVIp (ci := 2) (T := zT2) (N := 4) [.int a2] zm_V_Office_has ml_X_132 rfl (fun _ _ h => B_Office_has g (d + 4) h) (Nat.le_refl _) ⟨Nat.zero_le _, Nat.zero_le _⟩ rfl rfl (by decide) d_X_told_29 (fun v34 => ?_)
  refine zj_if_ne 38 d_X_told_32 rfl (fun _ => ?_) (fun _ => ?_)
  · refine zj_aload_n d_X_told_38 rfl ?_
    refine zj_getR fl_X_18 (fun _ _ _ _ => rfl) d_X_told_39 (fun v36 => ?_)
    refine zj_iload_n d_X_told_42 rfl ?_
    refine zj_aaload 4 rfl d_X_told_43 (fun v37 => ?_)
    refine zj_astore [some (zr g (some this)), some (.int a1), some (.int a2), some (.int a3), some (zr g v37)] d_X_told_44 (by decide) rfl rfl ?_
    refine zj_iload_n d_X_told_46 rfl ?_
    refine zj_tsw 0 (0) 96 d_X_told_47 (by decide) (by decide) (by decide) rfl rfl (fun _ => ?_) (fun h38 => ?_)
    · refine zj_aload d_X_told_96 rfl ?_
      refine zj_getI fl_X_151 (fun _ _ _ _ => rfl) d_X_told_98 (fun v39 => ?_)
      exact zj_iret rfl rfl rfl rfl d_X_told_101
    refine zj_tsw 1 (1) 102 d_X_told_47 (by decide) (by decide) (by decide) rfl rfl (fun _ => ?_) (fun h40 => ?_)
    · refine zj_aload d_X_told_102 rfl ?_
      refine zj_getI fl_X_138 (fun _ _ _ _ => rfl) d_X_told_104 (fun v41 => ?_)
      exact zj_iret rfl rfl rfl rfl d_X_told_107
    refine zj_tsw 2 (2) 108 d_X_told_47 (by decide) (by decide) (by decide) rfl rfl (fun _ => ?_) (fun h42 => ?_)
    · refine zj_aload d_X_told_108 rfl ?_
      refine zj_getI fl_X_154 (fun _ _ _ _ => rfl) d_X_told_110 (fun v43 => ?_)
      exact zj_iret rfl rfl rfl rfl d_X_told_113
    refine zj_tsw 3 (3) 114 d_X_told_47 (by decide) (by decide) (by decide) rfl rfl (fun _ => ?_) (fun h44 => ?_)
    · refine zj_aload d_X_told_114 rfl ?_
      refine zj_getI fl_X_157 (fun _ _ _ _ => rfl) d_X_told_116 (fun v45 => ?_)
      exact zj_iret rfl rfl rfl rfl d_X_told_119
    refine zj_tsw 4 (4) 120 d_X_told_47 (by decide) (by decide) (by decide) rfl rfl (fun _ => ?_) (fun h46 => ?_)
    · refine zj_aload d_X_told_120 rfl ?_
      refine zj_cVIp (ci := 3) (T := zT3) (N := 10) [] zm_V_Person_keeps ml_X_160 rfl (fun _ _ h => B_Person_keeps g (d + 3) h) (Nat.le_refl _) ⟨Nat.zero_le _, Nat.zero_le _⟩ rfl rfl (by decide) d_X_told_122 (fun v47 => ?_)
      exact zj_iret rfl rfl rfl rfl d_X_told_125
    refine zj_tsw 5 (5) 126 d_X_told_47 (by decide) (by decide) (by decide) rfl rfl (fun _ => ?_) (fun h49 => ?_)
    · refine zj_aload d_X_told_126 rfl ?_
      refine zj_aload_n d_X_told_128 rfl ?_
      refine zj_getR fl_X_10 (fun _ _ _ _ => rfl) d_X_told_129 (fun v50 => ?_)
      refine zj_cVIp (ci := 3) (T := zT3) (N := 10) [zr g v50] zm_V_Person_counts ml_X_163 rfl (fun _ _ h => B_Person_counts g (d) h) (Nat.le_refl _) ⟨Nat.zero_le _, Nat.zero_le _⟩ rfl rfl (by decide) d_X_told_132 (fun v51 => ?_)
      exact zj_iret rfl rfl rfl rfl d_X_told_135
    refine zj_tsw 6 (6) 136 d_X_told_47 (by decide) (by decide) (by decide) rfl rfl (fun _ => ?_) (fun h53 => ?_)
    · refine zj_aload d_X_told_136 rfl ?_
      refine zj_getI fl_X_167 (fun _ _ _ _ => rfl) d_X_told_138 (fun v54 => ?_)
      exact zj_iret rfl rfl rfl rfl d_X_told_141
    refine zj_tsw 7 (7) 142 d_X_told_47 (by decide) (by decide) (by decide) rfl rfl (fun _ => ?_) (fun h55 => ?_)
    · refine zj_aload d_X_told_142 rfl ?_
      refine zj_iload_n d_X_told_144 rfl ?_
      refine zj_aload_n d_X_told_145 rfl ?_
      refine zj_getR fl_X_10 (fun _ _ _ _ => rfl) d_X_told_146 (fun v56 => ?_)
      refine zj_cVIp (ci := 3) (T := zT3) (N := 10) [.int a2, zr g v56] zm_V_Person_can ml_X_170 rfl (fun _ _ h => B_Person_can g (d + 1) h) (Nat.le_refl _) ⟨Nat.zero_le _, Nat.zero_le _⟩ rfl rfl (by decide) d_X_told_149 (fun v57 => ?_)
      refine zj_if_eq 159 d_X_told_152 rfl (fun _ => ?_) (fun _ => ?_)
      · refine zj_iconst 0 d_X_told_159 (by decide) ?_
        exact zj_iret rfl rfl rfl rfl d_X_told_160
      refine zj_iconst 1 d_X_told_155 (by decide) ?_
      refine zj_goto 160 d_X_told_156 rfl ?_
      exact zj_iret rfl rfl rfl rfl d_X_told_160
    refine zj_tsw 8 (8) 161 d_X_told_47 (by decide) (by decide) (by decide) rfl rfl (fun _ => ?_) (fun h59 => ?_)
    · refine zj_aload_n d_X_told_161 rfl ?_
      refine zj_aload d_X_told_162 rfl ?_
      refine zj_iload_n d_X_told_164 rfl ?_
      refine zj_cVI (ci := 8) (T := zT8) (N := 16) [zr g v37, .int a2] zm_V_X_wellOf ml_X_174 rfl (fun _ _ h => B_X_wellOf g (d + 1) h) (Nat.le_refl _) ⟨Nat.zero_le _, Nat.zero_le _⟩ rfl rfl (by decide) d_X_told_165 (fun v60 u61 => ?_)
      exact zj_iret rfl rfl rfl rfl d_X_told_168
    refine zj_tswD 169 d_X_told_47 (by have e0 := lv_neT h38 (show (0 : Int32).toInt = 0 by decide); have e1 := lv_neT h40 (show (1 : Int32).toInt = 1 by decide); have e2 := lv_neT h42 (show (2 : Int32).toInt = 2 by decide); have e3 := lv_neT h44 (show (3 : Int32).toInt = 3 by decide); have e4 := lv_neT h46 (show (4 : Int32).toInt = 4 by decide); have e5 := lv_neT h49 (show (5 : Int32).toInt = 5 by decide); have e6 := lv_neT h53 (show (6 : Int32).toInt = 6 by decide); have e7 := lv_neT h55 (show (7 : Int32).toInt = 7 by decide); have e8 := lv_neT h59 (show (8 : Int32).toInt = 8 by decide); omega) rfl ?_
    refine zj_aload_n d_X_told_169 rfl ?_
    refine zj_aload d_X_told_170 rfl ?_
    refine zj_iload_n d_X_told_172 rfl ?_
    refine zj_cVI (ci := 8) (T := zT8) (N := 16) [zr g v37, .int a2] zm_V_X_costOf ml_X_178 rfl (fun _ _ h => B_X_costOf g (d + 1) h) (Nat.le_refl _) ⟨Nat.zero_le _, Nat.zero_le _⟩ rfl rfl (by decide) d_X_told_173 (fun v63 u64 => ?_)
    exact zj_iret rfl rfl rfl rfl d_X_told_176
  refine zj_bipush (-5) d_X_told_35 (by decide) ?_
  exact zj_iret rfl rfl rfl rfl d_X_told_37
def F_X_wages (u0 : zS) (this : Nat) (a1 : Option Nat) : Option (Int32 × zS) := (zgI u0 3 a1 1).bind fun v1 => (zob u0 8 (some this)).bind fun q4 => (F_X_valueOf u0 q4 2 a1 v1).bind <| zk fun v2 u3 => (F_X_bounded u3 v2 0 999).bind fun v5 => (zgR u3 8 (some this) 0).bind fun v6 => (zob u3 3 a1).bind fun q8 => (F_Person_counts u3 q8 v6).bind fun v7 => some ((v5 * v7), u3)
set_option maxHeartbeats 4000000 in
set_option maxRecDepth 100000 in
theorem B_X_wages (g : zG) (d : Nat) {u0 : zS} {this : Nat} {a1 : Option Nat} {o : Int32 × zS} (h : F_X_wages u0 this a1 = some o) : zMt g zy_X_wages (d + 6) 0 0 [zr g (some this), zr g a1] u0 (some (.int o.1)) o.2 := by
  refine zMt_of2 (ls := [some (zr g (some this)), some (zr g a1)]) 0 (by decide +kernel) (by simp [lg_sl, zr_cat, zcI, zcJ]) (by simp [zal, zr_cat, zcI, zcJ, List.replicate]) ?_
  revert h
  show zJ g zy_X_wages (d + 6) 0 0 zwI o 0 0 0 [some (zr g (some this)), some (zr g a1)] [] u0 (F_X_wages u0 this a1)
  unfold F_X_wages
  refine zj_aload_n d_X_wages_0 rfl ?_
  refine zj_iconst 2 d_X_wages_1 (by decide) ?_
  refine zj_aload_n d_X_wages_2 rfl ?_
  refine zj_aload_n d_X_wages_3 rfl ?_
  refine zj_getI fl_X_138 (fun _ _ _ _ => rfl) d_X_wages_4 (fun v1 => ?_)
  refine zj_cVI (ci := 8) (T := zT8) (N := 16) [.int 2, zr g a1, .int v1] zm_V_X_valueOf ml_X_342 rfl (fun _ _ h => B_X_valueOf g (d + 2) h) (Nat.le_refl _) ⟨Nat.zero_le _, Nat.zero_le _⟩ rfl rfl (by decide) d_X_wages_7 (fun v2 u3 => ?_)
  refine zj_iconst 0 d_X_wages_10 (by decide) ?_
  refine zj_sipush 999 d_X_wages_11 (by decide) ?_
  refine zj_cSIp [.int v2, .int 0, .int 999] zm_S_X_bounded ml_X_345 (fun _ h => B_X_bounded g (d + 3) h) (Nat.le_refl _) ⟨Nat.zero_le _, Nat.zero_le _⟩ rfl rfl (by decide) d_X_wages_14 (fun v5 => ?_)
  refine zj_aload_n d_X_wages_17 rfl ?_
  refine zj_aload_n d_X_wages_18 rfl ?_
  refine zj_getR fl_X_10 (fun _ _ _ _ => rfl) d_X_wages_19 (fun v6 => ?_)
  refine zj_cVIp (ci := 3) (T := zT3) (N := 10) [zr g v6] zm_V_Person_counts ml_X_163 rfl (fun _ _ h => B_Person_counts g (d) h) (Nat.le_refl _) ⟨Nat.zero_le _, Nat.zero_le _⟩ rfl rfl (by simp [zcI, zcJ]) d_X_wages_22 (fun v7 => ?_)
  refine zj_imul d_X_wages_25 ?_
  exact zj_iret rfl rfl rfl rfl d_X_wages_26
def F_X_done (u0 : zS) (this : Nat) (a1 : Int32) : Option (Int32 × zS) := (zob u0 8 (some this)).bind fun q2 => (F_X_isCrewSet u0 q2 a1).bind fun v1 => if v1 = 0 then (some ((-2), u0)) else ((zob u0 8 (some this)).bind fun q5 => (F_X_planWithout u0 q5 a1).bind <| zk fun v3 u4 => if v3 = (-1) then (some ((-3), u4)) else (zfix3 (fun (r6 : zS → Int32 → Int32 → Option (Int32 × zS)) (u7 : zS) (x8 : Int32) (x9 : Int32) => (zgR u7 8 (some this) 0).bind fun v10 => (zgI u7 2 v10 0).bind fun v11 => if v11 ≤ x9 then (some (x8, u7)) else ((zgR u7 8 (some this) 9).bind fun v12 => (zgR u7 4 v12 4).bind fun v13 => (zaI u7 .int v13 x9).bind fun v14 => (zob u7 8 (some this)).bind fun q16 => (F_X_isPerson u7 q16 v14).bind fun v15 => if v15 = 0 then (r6 u7 x8 (x9 + 1)) else ((zgR u7 8 (some this) 1).bind fun v17 => (zaR u7 "PostsFilled$Person" v17 v14).bind fun v18 => (zgR u7 8 (some this) 0).bind fun v19 => (zgI u7 2 v19 3).bind fun v20 => (zob u7 3 v18).bind fun q23 => (F_Person_work u7 q23 x9 v20).bind fun u22 => r6 u22 (x8 + 1) (x9 + 1)))) zFU u4 0 0))
set_option maxHeartbeats 4000000 in
set_option maxRecDepth 100000 in
theorem B_X_done (g : zG) (d : Nat) {u0 : zS} {this : Nat} {a1 : Int32} {o : Int32 × zS} (h : F_X_done u0 this a1 = some o) : zMt g zy_X_done (d + 7) 0 0 [zr g (some this), .int a1] u0 (some (.int o.1)) o.2 := by
  refine zMt_of2 (ls := [some (zr g (some this)), some (.int a1), none, none, none]) 3 (by decide +kernel) (by simp [lg_sl, zr_cat, zcI, zcJ]) (by simp [zal, zr_cat, zcI, zcJ, List.replicate]) ?_
  revert h
  show zJ g zy_X_done (d + 7) 0 0 zwI o 0 0 0 [some (zr g (some this)), some (.int a1), none, none, none] [] u0 (F_X_done u0 this a1)
  unfold F_X_done
  refine zj_aload_n d_X_done_0 rfl ?_
  refine zj_iload_n d_X_done_1 rfl ?_
  refine zj_cVIp (ci := 8) (T := zT8) (N := 16) [.int a1] zm_V_X_isCrewSet ml_X_184 rfl (fun _ _ h => B_X_isCrewSet g (d + 4) h) (Nat.le_refl _) ⟨Nat.zero_le _, Nat.zero_le _⟩ rfl rfl (by decide) d_X_done_2 (fun v1 => ?_)
  refine zj_if_ne 11 d_X_done_5 rfl (fun _ => ?_) (fun _ => ?_)
  · refine zj_aload_n d_X_done_11 rfl ?_
    refine zj_iload_n d_X_done_12 rfl ?_
    refine zj_cVI (ci := 8) (T := zT8) (N := 16) [.int a1] zm_V_X_planWithout ml_X_187 rfl (fun _ _ h => B_X_planWithout g (d) h) (Nat.le_refl _) ⟨Nat.zero_le _, Nat.zero_le _⟩ rfl rfl (by decide) d_X_done_13 (fun v3 u4 => ?_)
    refine zj_iconst (-1) d_X_done_16 (by decide) ?_
    refine zj_icmp_ne 23 d_X_done_17 rfl (fun _ => ?_) (fun _ => ?_)
    · refine zj_iconst 0 d_X_done_23 (by decide) ?_
      refine zj_istore_n [some (zr g (some this)), some (.int a1), some (.int 0), none, none] d_X_done_24 (by decide) rfl rfl ?_
      refine zj_iconst 0 d_X_done_25 (by decide) ?_
      refine zj_istore_n [some (zr g (some this)), some (.int a1), some (.int 0), some (.int 0), none] d_X_done_26 (by decide) rfl rfl ?_
      refine zj_cut [some (zr g (some this)), none, some (.int 0), some (.int 0), none] ⟨rfl, ⟨rfl, ⟨rfl, trivial⟩⟩⟩ ?_
      refine zj_fix3 (fun u7 x8 x9 => [some (zr g (some this)), none, some (.int x8), some (.int x9), none]) (fun u7 x8 x9 => u7) (fun r6 hr6 u7 x8 x9 => ?_) u4 0 0
      refine zj_iload_n d_X_done_27 rfl ?_
      refine zj_aload_n d_X_done_28 rfl ?_
      refine zj_getR fl_X_10 (fun _ _ _ _ => rfl) d_X_done_29 (fun v10 => ?_)
      refine zj_getI fl_X_254 (fun _ _ _ _ => rfl) d_X_done_32 (fun v11 => ?_)
      refine zj_icmp_ge 85 d_X_done_35 rfl (fun _ => ?_) (fun _ => ?_)
      · refine zj_iload_n d_X_done_85 rfl ?_
        exact zj_iret rfl rfl rfl rfl d_X_done_86
      refine zj_aload_n d_X_done_38 rfl ?_
      refine zj_getR fl_X_52 (fun _ _ _ _ => rfl) d_X_done_39 (fun v12 => ?_)
      refine zj_getR fl_X_191 (fun _ _ _ _ => rfl) d_X_done_42 (fun v13 => ?_)
      refine zj_iload_n d_X_done_45 rfl ?_
      refine zj_iaload d_X_done_46 (fun v14 => ?_)
      refine zj_istore [some (zr g (some this)), none, some (.int x8), some (.int x9), some (.int v14)] d_X_done_47 (by decide) rfl rfl ?_
      refine zj_aload_n d_X_done_49 rfl ?_
      refine zj_iload d_X_done_50 rfl ?_
      refine zj_cVIp (ci := 8) (T := zT8) (N := 16) [.int v14] zm_V_X_isPerson ml_X_129 rfl (fun _ _ h => B_X_isPerson g (d + 5) h) (Nat.le_refl _) ⟨Nat.zero_le _, Nat.zero_le _⟩ rfl rfl (by decide) d_X_done_52 (fun v15 => ?_)
      refine zj_if_eq 79 d_X_done_55 rfl (fun _ => ?_) (fun _ => ?_)
      · refine zj_iinc (v := (x9 + 1)) [some (zr g (some this)), none, some (.int x8), some (.int (x9 + 1)), some (.int v14)] d_X_done_79 rfl rfl (by decide) rfl rfl ?_
        refine zj_goto 27 d_X_done_82 rfl ?_
        refine zj_cut [some (zr g (some this)), none, some (.int x8), some (.int (x9 + 1)), none] ⟨rfl, ⟨rfl, ⟨rfl, trivial⟩⟩⟩ ?_
        exact hr6 u7 x8 (x9 + 1)
      refine zj_aload_n d_X_done_58 rfl ?_
      refine zj_getR fl_X_18 (fun _ _ _ _ => rfl) d_X_done_59 (fun v17 => ?_)
      refine zj_iload d_X_done_62 rfl ?_
      refine zj_aaload 4 rfl d_X_done_64 (fun v18 => ?_)
      refine zj_iload_n d_X_done_65 rfl ?_
      refine zj_aload_n d_X_done_66 rfl ?_
      refine zj_getR fl_X_10 (fun _ _ _ _ => rfl) d_X_done_67 (fun v19 => ?_)
      refine zj_getI fl_X_126 (fun _ _ _ _ => rfl) d_X_done_70 (fun v20 => ?_)
      refine zj_cVU (ci := 3) (T := zT3) (N := 10) [.int x9, .int v20] zm_V_Person_work ml_X_255 rfl (fun _ _ h => B_Person_work g (d + 5) h) (Nat.le_refl _) ⟨Nat.zero_le _, Nat.zero_le _⟩ rfl rfl (by decide) d_X_done_73 (fun u22 => ?_)
      refine zj_iinc (v := (x8 + 1)) [some (zr g (some this)), none, some (.int (x8 + 1)), some (.int x9), some (.int v14)] d_X_done_76 rfl rfl (by decide) rfl rfl ?_
      refine zj_iinc (v := (x9 + 1)) [some (zr g (some this)), none, some (.int (x8 + 1)), some (.int (x9 + 1)), some (.int v14)] d_X_done_79 rfl rfl (by decide) rfl rfl ?_
      refine zj_goto 27 d_X_done_82 rfl ?_
      refine zj_cut [some (zr g (some this)), none, some (.int (x8 + 1)), some (.int (x9 + 1)), none] ⟨rfl, ⟨rfl, ⟨rfl, trivial⟩⟩⟩ ?_
      exact hr6 u22 (x8 + 1) (x9 + 1)
    refine zj_bipush (-3) d_X_done_20 (by decide) ?_
    exact zj_iret rfl rfl rfl rfl d_X_done_22
  refine zj_bipush (-2) d_X_done_8 (by decide) ?_
  exact zj_iret rfl rfl rfl rfl d_X_done_10
def F_X_fill (u0 : zS) (this : Nat) (a1 : Int32) (a2 : Int32) : Option (Int32 × zS) := (zob u0 8 (some this)).bind fun q2 => (F_X_isCrewSet u0 q2 a1).bind fun v1 => if v1 = 0 then (some ((-2), u0)) else (if a2 = (-1) then ((zob u0 8 (some this)).bind fun q5 => (F_X_planWithout u0 q5 a1).bind <| zk fun v3 u4 => if v3 = (-1) then (some ((-3), u4)) else (if a2 = (-1) then (some (v3, u4)) else ((zgR u4 8 (some this) 9).bind fun v6 => (zgR u4 4 v6 4).bind fun v7 => (zaI u4 .int v7 a2).bind fun v8 => some (v8, u4)))) else ((zgR u0 8 (some this) 0).bind fun v9 => (zob u0 2 v9).bind fun q11 => (F_Office_has u0 q11 a2).bind fun v10 => if v10 = 0 then (some ((-2), u0)) else ((zob u0 8 (some this)).bind fun q14 => (F_X_planWithout u0 q14 a1).bind <| zk fun v12 u13 => if v12 = (-1) then (some ((-3), u13)) else (if a2 = (-1) then (some (v12, u13)) else ((zgR u13 8 (some this) 9).bind fun v15 => (zgR u13 4 v15 4).bind fun v16 => (zaI u13 .int v16 a2).bind fun v17 => some (v17, u13))))))
set_option maxHeartbeats 4000000 in
set_option maxRecDepth 100000 in
theorem B_X_fill (g : zG) (d : Nat) {u0 : zS} {this : Nat} {a1 : Int32} {a2 : Int32} {o : Int32 × zS} (h : F_X_fill u0 this a1 a2 = some o) : zMt g zy_X_fill (d + 7) 0 0 [zr g (some this), .int a1, .int a2] u0 (some (.int o.1)) o.2 := by
  refine zMt_of2 (ls := [some (zr g (some this)), some (.int a1), some (.int a2), none]) 1 (by decide +kernel) (by simp [lg_sl, zr_cat, zcI, zcJ]) (by simp [zal, zr_cat, zcI, zcJ, List.replicate]) ?_
  revert h
  show zJ g zy_X_fill (d + 7) 0 0 zwI o 0 0 0 [some (zr g (some this)), some (.int a1), some (.int a2), none] [] u0 (F_X_fill u0 this a1 a2)
  unfold F_X_fill
  refine zj_aload_n d_X_fill_0 rfl ?_
  refine zj_iload_n d_X_fill_1 rfl ?_
  refine zj_cVIp (ci := 8) (T := zT8) (N := 16) [.int a1] zm_V_X_isCrewSet ml_X_184 rfl (fun _ _ h => B_X_isCrewSet g (d + 4) h) (Nat.le_refl _) ⟨Nat.zero_le _, Nat.zero_le _⟩ rfl rfl (by decide) d_X_fill_2 (fun v1 => ?_)
  refine zj_if_eq 24 d_X_fill_5 rfl (fun _ => ?_) (fun _ => ?_)
  · refine zj_bipush (-2) d_X_fill_24 (by decide) ?_
    exact zj_iret rfl rfl rfl rfl d_X_fill_26
  refine zj_iload_n d_X_fill_8 rfl ?_
  refine zj_iconst (-1) d_X_fill_9 (by decide) ?_
  refine zj_icmp_eq 27 d_X_fill_10 rfl (fun _ => ?_) (fun _ => ?_)
  · refine zj_aload_n d_X_fill_27 rfl ?_
    refine zj_iload_n d_X_fill_28 rfl ?_
    refine zj_cVI (ci := 8) (T := zT8) (N := 16) [.int a1] zm_V_X_planWithout ml_X_187 rfl (fun _ _ h => B_X_planWithout g (d) h) (Nat.le_refl _) ⟨Nat.zero_le _, Nat.zero_le _⟩ rfl rfl (by decide) d_X_fill_29 (fun v3 u4 => ?_)
    refine zj_istore_n [some (zr g (some this)), some (.int a1), some (.int a2), some (.int v3)] d_X_fill_32 (by decide) rfl rfl ?_
    refine zj_iload_n d_X_fill_33 rfl ?_
    refine zj_iconst (-1) d_X_fill_34 (by decide) ?_
    refine zj_icmp_ne 41 d_X_fill_35 rfl (fun _ => ?_) (fun _ => ?_)
    · refine zj_iload_n d_X_fill_41 rfl ?_
      refine zj_iconst (-1) d_X_fill_42 (by decide) ?_
      refine zj_icmp_ne 50 d_X_fill_43 rfl (fun _ => ?_) (fun _ => ?_)
      · refine zj_aload_n d_X_fill_50 rfl ?_
        refine zj_getR fl_X_52 (fun _ _ _ _ => rfl) d_X_fill_51 (fun v6 => ?_)
        refine zj_getR fl_X_191 (fun _ _ _ _ => rfl) d_X_fill_54 (fun v7 => ?_)
        refine zj_iload_n d_X_fill_57 rfl ?_
        refine zj_iaload d_X_fill_58 (fun v8 => ?_)
        exact zj_iret rfl rfl rfl rfl d_X_fill_59
      refine zj_iload_n d_X_fill_46 rfl ?_
      refine zj_goto 59 d_X_fill_47 rfl ?_
      exact zj_iret rfl rfl rfl rfl d_X_fill_59
    refine zj_bipush (-3) d_X_fill_38 (by decide) ?_
    exact zj_iret rfl rfl rfl rfl d_X_fill_40
  refine zj_aload_n d_X_fill_13 rfl ?_
  refine zj_getR fl_X_10 (fun _ _ _ _ => rfl) d_X_fill_14 (fun v9 => ?_)
  refine zj_iload_n d_X_fill_17 rfl ?_
  refine zj_cVIp (ci := 2) (T := zT2) (N := 4) [.int a2] zm_V_Office_has ml_X_132 rfl (fun _ _ h => B_Office_has g (d + 5) h) (Nat.le_refl _) ⟨Nat.zero_le _, Nat.zero_le _⟩ rfl rfl (by decide) d_X_fill_18 (fun v10 => ?_)
  refine zj_if_ne 27 d_X_fill_21 rfl (fun _ => ?_) (fun _ => ?_)
  · refine zj_aload_n d_X_fill_27 rfl ?_
    refine zj_iload_n d_X_fill_28 rfl ?_
    refine zj_cVI (ci := 8) (T := zT8) (N := 16) [.int a1] zm_V_X_planWithout ml_X_187 rfl (fun _ _ h => B_X_planWithout g (d) h) (Nat.le_refl _) ⟨Nat.zero_le _, Nat.zero_le _⟩ rfl rfl (by decide) d_X_fill_29 (fun v12 u13 => ?_)
    refine zj_istore_n [some (zr g (some this)), some (.int a1), some (.int a2), some (.int v12)] d_X_fill_32 (by decide) rfl rfl ?_
    refine zj_iload_n d_X_fill_33 rfl ?_
    refine zj_iconst (-1) d_X_fill_34 (by decide) ?_
    refine zj_icmp_ne 41 d_X_fill_35 rfl (fun _ => ?_) (fun _ => ?_)
    · refine zj_iload_n d_X_fill_41 rfl ?_
      refine zj_iconst (-1) d_X_fill_42 (by decide) ?_
      refine zj_icmp_ne 50 d_X_fill_43 rfl (fun _ => ?_) (fun _ => ?_)
      · refine zj_aload_n d_X_fill_50 rfl ?_
        refine zj_getR fl_X_52 (fun _ _ _ _ => rfl) d_X_fill_51 (fun v15 => ?_)
        refine zj_getR fl_X_191 (fun _ _ _ _ => rfl) d_X_fill_54 (fun v16 => ?_)
        refine zj_iload_n d_X_fill_57 rfl ?_
        refine zj_iaload d_X_fill_58 (fun v17 => ?_)
        exact zj_iret rfl rfl rfl rfl d_X_fill_59
      refine zj_iload_n d_X_fill_46 rfl ?_
      refine zj_goto 59 d_X_fill_47 rfl ?_
      exact zj_iret rfl rfl rfl rfl d_X_fill_59
    refine zj_bipush (-3) d_X_fill_38 (by decide) ?_
    exact zj_iret rfl rfl rfl rfl d_X_fill_40
  refine zj_bipush (-2) d_X_fill_24 (by decide) ?_
  exact zj_iret rfl rfl rfl rfl d_X_fill_26
def F_X_pay (u0 : zS) (this : Nat) (a1 : Int32) : Option (Int32 × zS) := if a1 = (-1) then (if a1 = (-1) then (zfix3 (fun (r1 : zS → Int32 → Int32 → Option (Int32 × zS)) (u2 : zS) (x3 : Int32) (x4 : Int32) => (zgI u2 8 (some this) 2).bind fun v5 => if v5 ≤ x4 then (some (x3, u2)) else ((zgR u2 8 (some this) 1).bind fun v6 => (zaR u2 "PostsFilled$Person" v6 x4).bind fun v7 => (zob u2 8 (some this)).bind fun q10 => (F_X_wages u2 q10 v7).bind <| zk fun v8 u9 => r1 u9 (x3 + v8) (x4 + 1))) zFU u0 0 0) else ((zgR u0 8 (some this) 1).bind fun v11 => (zaR u0 "PostsFilled$Person" v11 a1).bind fun v12 => (zob u0 8 (some this)).bind fun q15 => (F_X_wages u0 q15 v12).bind <| zk fun v13 u14 => some (v13, u14))) else ((zob u0 8 (some this)).bind fun q17 => (F_X_isPerson u0 q17 a1).bind fun v16 => if v16 = 0 then (some ((-2), u0)) else (if a1 = (-1) then (zfix3 (fun (r18 : zS → Int32 → Int32 → Option (Int32 × zS)) (u19 : zS) (x20 : Int32) (x21 : Int32) => (zgI u19 8 (some this) 2).bind fun v22 => if v22 ≤ x21 then (some (x20, u19)) else ((zgR u19 8 (some this) 1).bind fun v23 => (zaR u19 "PostsFilled$Person" v23 x21).bind fun v24 => (zob u19 8 (some this)).bind fun q27 => (F_X_wages u19 q27 v24).bind <| zk fun v25 u26 => r18 u26 (x20 + v25) (x21 + 1))) zFU u0 0 0) else ((zgR u0 8 (some this) 1).bind fun v28 => (zaR u0 "PostsFilled$Person" v28 a1).bind fun v29 => (zob u0 8 (some this)).bind fun q32 => (F_X_wages u0 q32 v29).bind <| zk fun v30 u31 => some (v30, u31))))
set_option maxHeartbeats 4000000 in
set_option maxRecDepth 100000 in
theorem B_X_pay (g : zG) (d : Nat) {u0 : zS} {this : Nat} {a1 : Int32} {o : Int32 × zS} (h : F_X_pay u0 this a1 = some o) : zMt g zy_X_pay (d + 7) 0 0 [zr g (some this), .int a1] u0 (some (.int o.1)) o.2 := by
  refine zMt_of2 (ls := [some (zr g (some this)), some (.int a1), none, none]) 2 (by decide +kernel) (by simp [lg_sl, zr_cat, zcI, zcJ]) (by simp [zal, zr_cat, zcI, zcJ, List.replicate]) ?_
  revert h
  show zJ g zy_X_pay (d + 7) 0 0 zwI o 0 0 0 [some (zr g (some this)), some (.int a1), none, none] [] u0 (F_X_pay u0 this a1)
  unfold F_X_pay
  refine zj_iload_n d_X_pay_0 rfl ?_
  refine zj_iconst (-1) d_X_pay_1 (by decide) ?_
  refine zj_icmp_eq 16 d_X_pay_2 rfl (fun _ => ?_) (fun _ => ?_)
  · refine zj_iload_n d_X_pay_16 rfl ?_
    refine zj_iconst (-1) d_X_pay_17 (by decide) ?_
    refine zj_icmp_eq 32 d_X_pay_18 rfl (fun _ => ?_) (fun _ => ?_)
    · refine zj_iconst 0 d_X_pay_32 (by decide) ?_
      refine zj_istore_n [some (zr g (some this)), some (.int a1), some (.int 0), none] d_X_pay_33 (by decide) rfl rfl ?_
      refine zj_iconst 0 d_X_pay_34 (by decide) ?_
      refine zj_istore_n [some (zr g (some this)), some (.int a1), some (.int 0), some (.int 0)] d_X_pay_35 (by decide) rfl rfl ?_
      refine zj_cut [some (zr g (some this)), none, some (.int 0), some (.int 0)] ⟨rfl, ⟨rfl, ⟨rfl, trivial⟩⟩⟩ ?_
      refine zj_fix3 (fun u2 x3 x4 => [some (zr g (some this)), none, some (.int x3), some (.int x4)]) (fun u2 x3 x4 => u2) (fun r1 hr1 u2 x3 x4 => ?_) u0 0 0
      refine zj_iload_n d_X_pay_36 rfl ?_
      refine zj_aload_n d_X_pay_37 rfl ?_
      refine zj_getI fl_X_22 (fun _ _ _ _ => rfl) d_X_pay_38 (fun v5 => ?_)
      refine zj_icmp_ge 63 d_X_pay_41 rfl (fun _ => ?_) (fun _ => ?_)
      · refine zj_iload_n d_X_pay_63 rfl ?_
        exact zj_iret rfl rfl rfl rfl d_X_pay_64
      refine zj_iload_n d_X_pay_44 rfl ?_
      refine zj_aload_n d_X_pay_45 rfl ?_
      refine zj_aload_n d_X_pay_46 rfl ?_
      refine zj_getR fl_X_18 (fun _ _ _ _ => rfl) d_X_pay_47 (fun v6 => ?_)
      refine zj_iload_n d_X_pay_50 rfl ?_
      refine zj_aaload 4 rfl d_X_pay_51 (fun v7 => ?_)
      refine zj_cVI (ci := 8) (T := zT8) (N := 16) [zr g v7] zm_V_X_wages ml_X_267 rfl (fun _ _ h => B_X_wages g (d) h) (Nat.le_refl _) ⟨Nat.zero_le _, Nat.zero_le _⟩ rfl rfl (by simp [zcI, zcJ]) d_X_pay_52 (fun v8 u9 => ?_)
      refine zj_iadd d_X_pay_55 ?_
      refine zj_istore_n [some (zr g (some this)), none, some (.int (x3 + v8)), some (.int x4)] d_X_pay_56 (by decide) rfl rfl ?_
      refine zj_iinc (v := (x4 + 1)) [some (zr g (some this)), none, some (.int (x3 + v8)), some (.int (x4 + 1))] d_X_pay_57 rfl rfl (by decide) rfl rfl ?_
      refine zj_goto 36 d_X_pay_60 rfl ?_
      exact hr1 u9 (x3 + v8) (x4 + 1)
    refine zj_aload_n d_X_pay_21 rfl ?_
    refine zj_aload_n d_X_pay_22 rfl ?_
    refine zj_getR fl_X_18 (fun _ _ _ _ => rfl) d_X_pay_23 (fun v11 => ?_)
    refine zj_iload_n d_X_pay_26 rfl ?_
    refine zj_aaload 4 rfl d_X_pay_27 (fun v12 => ?_)
    refine zj_cVI (ci := 8) (T := zT8) (N := 16) [zr g v12] zm_V_X_wages ml_X_267 rfl (fun _ _ h => B_X_wages g (d) h) (Nat.le_refl _) ⟨Nat.zero_le _, Nat.zero_le _⟩ rfl rfl (by decide) d_X_pay_28 (fun v13 u14 => ?_)
    exact zj_iret rfl rfl rfl rfl d_X_pay_31
  refine zj_aload_n d_X_pay_5 rfl ?_
  refine zj_iload_n d_X_pay_6 rfl ?_
  refine zj_cVIp (ci := 8) (T := zT8) (N := 16) [.int a1] zm_V_X_isPerson ml_X_129 rfl (fun _ _ h => B_X_isPerson g (d + 5) h) (Nat.le_refl _) ⟨Nat.zero_le _, Nat.zero_le _⟩ rfl rfl (by decide) d_X_pay_7 (fun v16 => ?_)
  refine zj_if_ne 16 d_X_pay_10 rfl (fun _ => ?_) (fun _ => ?_)
  · refine zj_iload_n d_X_pay_16 rfl ?_
    refine zj_iconst (-1) d_X_pay_17 (by decide) ?_
    refine zj_icmp_eq 32 d_X_pay_18 rfl (fun _ => ?_) (fun _ => ?_)
    · refine zj_iconst 0 d_X_pay_32 (by decide) ?_
      refine zj_istore_n [some (zr g (some this)), some (.int a1), some (.int 0), none] d_X_pay_33 (by decide) rfl rfl ?_
      refine zj_iconst 0 d_X_pay_34 (by decide) ?_
      refine zj_istore_n [some (zr g (some this)), some (.int a1), some (.int 0), some (.int 0)] d_X_pay_35 (by decide) rfl rfl ?_
      refine zj_cut [some (zr g (some this)), none, some (.int 0), some (.int 0)] ⟨rfl, ⟨rfl, ⟨rfl, trivial⟩⟩⟩ ?_
      refine zj_fix3 (fun u19 x20 x21 => [some (zr g (some this)), none, some (.int x20), some (.int x21)]) (fun u19 x20 x21 => u19) (fun r18 hr18 u19 x20 x21 => ?_) u0 0 0
      refine zj_iload_n d_X_pay_36 rfl ?_
      refine zj_aload_n d_X_pay_37 rfl ?_
      refine zj_getI fl_X_22 (fun _ _ _ _ => rfl) d_X_pay_38 (fun v22 => ?_)
      refine zj_icmp_ge 63 d_X_pay_41 rfl (fun _ => ?_) (fun _ => ?_)
      · refine zj_iload_n d_X_pay_63 rfl ?_
        exact zj_iret rfl rfl rfl rfl d_X_pay_64
      refine zj_iload_n d_X_pay_44 rfl ?_
      refine zj_aload_n d_X_pay_45 rfl ?_
      refine zj_aload_n d_X_pay_46 rfl ?_
      refine zj_getR fl_X_18 (fun _ _ _ _ => rfl) d_X_pay_47 (fun v23 => ?_)
      refine zj_iload_n d_X_pay_50 rfl ?_
      refine zj_aaload 4 rfl d_X_pay_51 (fun v24 => ?_)
      refine zj_cVI (ci := 8) (T := zT8) (N := 16) [zr g v24] zm_V_X_wages ml_X_267 rfl (fun _ _ h => B_X_wages g (d) h) (Nat.le_refl _) ⟨Nat.zero_le _, Nat.zero_le _⟩ rfl rfl (by simp [zcI, zcJ]) d_X_pay_52 (fun v25 u26 => ?_)
      refine zj_iadd d_X_pay_55 ?_
      refine zj_istore_n [some (zr g (some this)), none, some (.int (x20 + v25)), some (.int x21)] d_X_pay_56 (by decide) rfl rfl ?_
      refine zj_iinc (v := (x21 + 1)) [some (zr g (some this)), none, some (.int (x20 + v25)), some (.int (x21 + 1))] d_X_pay_57 rfl rfl (by decide) rfl rfl ?_
      refine zj_goto 36 d_X_pay_60 rfl ?_
      exact hr18 u26 (x20 + v25) (x21 + 1)
    refine zj_aload_n d_X_pay_21 rfl ?_
    refine zj_aload_n d_X_pay_22 rfl ?_
    refine zj_getR fl_X_18 (fun _ _ _ _ => rfl) d_X_pay_23 (fun v28 => ?_)
    refine zj_iload_n d_X_pay_26 rfl ?_
    refine zj_aaload 4 rfl d_X_pay_27 (fun v29 => ?_)
    refine zj_cVI (ci := 8) (T := zT8) (N := 16) [zr g v29] zm_V_X_wages ml_X_267 rfl (fun _ _ h => B_X_wages g (d) h) (Nat.le_refl _) ⟨Nat.zero_le _, Nat.zero_le _⟩ rfl rfl (by decide) d_X_pay_28 (fun v30 u31 => ?_)
    exact zj_iret rfl rfl rfl rfl d_X_pay_31
  refine zj_bipush (-2) d_X_pay_13 (by decide) ?_
  exact zj_iret rfl rfl rfl rfl d_X_pay_15
def F_X_worst (u0 : zS) (this : Nat) (a1 : Int32) (a2 : Int32) : Option (Int32 × zS) := if a1 < 0 then (some ((-2), u0)) else (if 7 < a1 then (some ((-2), u0)) else ((F_X_isFlag u0 a2).bind fun v1 => if v1 = 0 then (some ((-2), u0)) else (if a2 = 0 then ((zob u0 8 (some this)).bind fun q7 => (F_X_firstThatBreaks u0 q7 a1).bind <| zk fun v5 u6 => some (v5, u6)) else ((zob u0 8 (some this)).bind fun q4 => (F_X_poorestThatFills u0 q4 a1).bind <| zk fun v2 u3 => some (v2, u3)))))
set_option maxHeartbeats 4000000 in
set_option maxRecDepth 100000 in
theorem B_X_worst (g : zG) (d : Nat) {u0 : zS} {this : Nat} {a1 : Int32} {a2 : Int32} {o : Int32 × zS} (h : F_X_worst u0 this a1 a2 = some o) : zMt g zy_X_worst (d + 7) 0 0 [zr g (some this), .int a1, .int a2] u0 (some (.int o.1)) o.2 := by
  refine zMt_of2 (ls := [some (zr g (some this)), some (.int a1), some (.int a2)]) 0 (by decide +kernel) (by simp [lg_sl, zr_cat, zcI, zcJ]) (by simp [zal, zr_cat, zcI, zcJ, List.replicate]) ?_
  revert h
  show zJ g zy_X_worst (d + 7) 0 0 zwI o 0 0 0 [some (zr g (some this)), some (.int a1), some (.int a2)] [] u0 (F_X_worst u0 this a1 a2)
  unfold F_X_worst
  refine zj_iload_n d_X_worst_0 rfl ?_
  refine zj_if_lt 17 d_X_worst_1 rfl (fun _ => ?_) (fun _ => ?_)
  · refine zj_bipush (-2) d_X_worst_17 (by decide) ?_
    exact zj_iret rfl rfl rfl rfl d_X_worst_19
  refine zj_iload_n d_X_worst_4 rfl ?_
  refine zj_bipush 7 d_X_worst_5 (by decide) ?_
  refine zj_icmp_gt 17 d_X_worst_7 rfl (fun _ => ?_) (fun _ => ?_)
  · refine zj_bipush (-2) d_X_worst_17 (by decide) ?_
    exact zj_iret rfl rfl rfl rfl d_X_worst_19
  refine zj_iload_n d_X_worst_10 rfl ?_
  refine zj_cSIp [.int a2] zm_S_X_isFlag ml_X_114 (fun _ h => B_X_isFlag g (d + 5) h) (Nat.le_refl _) ⟨Nat.zero_le _, Nat.zero_le _⟩ rfl rfl (by decide) d_X_worst_11 (fun v1 => ?_)
  refine zj_if_ne 20 d_X_worst_14 rfl (fun _ => ?_) (fun _ => ?_)
  · refine zj_iload_n d_X_worst_20 rfl ?_
    refine zj_if_ne 32 d_X_worst_21 rfl (fun _ => ?_) (fun _ => ?_)
    · refine zj_aload_n d_X_worst_32 rfl ?_
      refine zj_iload_n d_X_worst_33 rfl ?_
      refine zj_cVI (ci := 8) (T := zT8) (N := 16) [.int a1] zm_V_X_poorestThatFills ml_X_210 rfl (fun _ _ h => B_X_poorestThatFills g (d) h) (Nat.le_refl _) ⟨Nat.zero_le _, Nat.zero_le _⟩ rfl rfl (by decide) d_X_worst_34 (fun v2 u3 => ?_)
      exact zj_iret rfl rfl rfl rfl d_X_worst_37
    refine zj_aload_n d_X_worst_24 rfl ?_
    refine zj_iload_n d_X_worst_25 rfl ?_
    refine zj_cVI (ci := 8) (T := zT8) (N := 16) [.int a1] zm_V_X_firstThatBreaks ml_X_207 rfl (fun _ _ h => B_X_firstThatBreaks g (d) h) (Nat.le_refl _) ⟨Nat.zero_le _, Nat.zero_le _⟩ rfl rfl (by decide) d_X_worst_26 (fun v5 u6 => ?_)
    refine zj_goto 37 d_X_worst_29 rfl ?_
    exact zj_iret rfl rfl rfl rfl d_X_worst_37
  refine zj_bipush (-2) d_X_worst_17 (by decide) ?_
  exact zj_iret rfl rfl rfl rfl d_X_worst_19
def F_Reader_wordBetween (u0 : zS) (this : Nat) (a1 : Int32) (a2 : Int32) : Option (Int32) := zfix4 (fun (r1 : Int32 → Int32 → Int32 → Int32 → Option (Int32)) (x2 : Int32) (x3 : Int32) (x4 : Int32) (x5 : Int32) => if 60 ≤ x5 then (some 14) else ((zch 1 x5).bind fun v6 => if v6 = 32 then (if x4 = 0 then (r1 (x2 + 1) a1 1 (x5 + 1)) else (if x3 = a2 then (some x2) else (r1 (x2 + 1) a1 1 (x5 + 1)))) else (if x4 = 0 then (r1 x2 (x3 + 1) 0 (x5 + 1)) else (if a2 ≤ x3 then (r1 x2 (x3 + 1) 0 (x5 + 1)) else ((zgI u0 5 (some this) 0).bind fun v7 => if v7 ≤ x3 then (r1 x2 (x3 + 1) 0 (x5 + 1)) else ((zgR u0 5 (some this) 1).bind fun v8 => (zaI u0 .int v8 x3).bind fun v9 => if v9 = v6 then (r1 x2 (x3 + 1) 1 (x5 + 1)) else (r1 x2 (x3 + 1) 0 (x5 + 1)))))))) zFU 0 a1 1 0
set_option maxHeartbeats 4000000 in
set_option maxRecDepth 100000 in
theorem B_Reader_wordBetween (g : zG) (d : Nat) {u0 : zS} {this : Nat} {a1 : Int32} {a2 : Int32} {o : Int32} (h : F_Reader_wordBetween u0 this a1 a2 = some o) : zMt g zy_Reader_wordBetween (d + 7) 0 0 [zr g (some this), .int a1, .int a2] u0 (some (.int o)) u0 := by
  refine zMt_of2 (ls := [some (zr g (some this)), some (.int a1), some (.int a2), none, none, none, none, none]) 5 (by decide +kernel) (by simp [lg_sl, zr_cat, zcI, zcJ]) (by simp [zal, zr_cat, zcI, zcJ, List.replicate]) ?_
  revert h
  show zJ g zy_Reader_wordBetween (d + 7) 0 0 (zwIp u0) o 0 0 0 [some (zr g (some this)), some (.int a1), some (.int a2), none, none, none, none, none] [] u0 (F_Reader_wordBetween u0 this a1 a2)
  unfold F_Reader_wordBetween
  refine zj_iconst 0 d_Reader_wordBetween_0 (by decide) ?_
  refine zj_istore_n [some (zr g (some this)), some (.int a1), some (.int a2), some (.int 0), none, none, none, none] d_Reader_wordBetween_1 (by decide) rfl rfl ?_
  refine zj_iload_n d_Reader_wordBetween_2 rfl ?_
  refine zj_istore [some (zr g (some this)), some (.int a1), some (.int a2), some (.int 0), some (.int a1), none, none, none] d_Reader_wordBetween_3 (by decide) rfl rfl ?_
  refine zj_iconst 1 d_Reader_wordBetween_5 (by decide) ?_
  refine zj_istore [some (zr g (some this)), some (.int a1), some (.int a2), some (.int 0), some (.int a1), some (.int 1), none, none] d_Reader_wordBetween_6 (by decide) rfl rfl ?_
  refine zj_iconst 0 d_Reader_wordBetween_8 (by decide) ?_
  refine zj_istore [some (zr g (some this)), some (.int a1), some (.int a2), some (.int 0), some (.int a1), some (.int 1), some (.int 0), none] d_Reader_wordBetween_9 (by decide) rfl rfl ?_
  refine zj_fix4 (fun x2 x3 x4 x5 => [some (zr g (some this)), some (.int a1), some (.int a2), some (.int x2), some (.int x3), some (.int x4), some (.int x5), none]) (fun x2 x3 x4 x5 => u0) (fun r1 hr1 x2 x3 x4 x5 => ?_) 0 a1 1 0
  refine zj_iload d_Reader_wordBetween_11 rfl ?_
  refine zj_ldcS1 ⟨rfl, rfl⟩ d_Reader_wordBetween_13 ?_
  refine zj_strlen1 ml_Reader_102 (by omega) ⟨Nat.zero_le _, Nat.zero_le _⟩ (by simp [zr_cat, zcI, zcJ]) d_Reader_wordBetween_15 ?_
  refine zj_icmp_ge 110 d_Reader_wordBetween_18 rfl (fun _ => ?_) (fun _ => ?_)
  · refine zj_bipush 14 d_Reader_wordBetween_110 (by decide) ?_
    exact zj_iret rfl rfl rfl rfl d_Reader_wordBetween_112
  refine zj_ldcS1 ⟨rfl, rfl⟩ d_Reader_wordBetween_21 ?_
  refine zj_iload d_Reader_wordBetween_23 rfl ?_
  refine zj_strch1 ml_Reader_108 (by omega) ⟨Nat.zero_le _, Nat.zero_le _⟩ (by decide) d_Reader_wordBetween_25 (fun v6 => ?_)
  refine zj_istore [some (zr g (some this)), some (.int a1), some (.int a2), some (.int x2), some (.int x3), some (.int x4), some (.int x5), some (.int v6)] d_Reader_wordBetween_28 (by decide) rfl rfl ?_
  refine zj_iload d_Reader_wordBetween_30 rfl ?_
  refine zj_bipush 32 d_Reader_wordBetween_32 (by decide) ?_
  refine zj_icmp_eq 82 d_Reader_wordBetween_34 rfl (fun _ => ?_) (fun _ => ?_)
  · refine zj_iload d_Reader_wordBetween_82 rfl ?_
    refine zj_if_eq 95 d_Reader_wordBetween_84 rfl (fun _ => ?_) (fun _ => ?_)
    · refine zj_iinc (v := (x2 + 1)) [some (zr g (some this)), some (.int a1), some (.int a2), some (.int (x2 + 1)), some (.int x3), some (.int x4), some (.int x5), some (.int v6)] d_Reader_wordBetween_95 rfl rfl (by decide) rfl rfl ?_
      refine zj_iload_n d_Reader_wordBetween_98 rfl ?_
      refine zj_istore [some (zr g (some this)), some (.int a1), some (.int a2), some (.int (x2 + 1)), some (.int a1), some (.int x4), some (.int x5), some (.int v6)] d_Reader_wordBetween_99 (by decide) rfl rfl ?_
      refine zj_iconst 1 d_Reader_wordBetween_101 (by decide) ?_
      refine zj_istore [some (zr g (some this)), some (.int a1), some (.int a2), some (.int (x2 + 1)), some (.int a1), some (.int 1), some (.int x5), some (.int v6)] d_Reader_wordBetween_102 (by decide) rfl rfl ?_
      refine zj_iinc (v := (x5 + 1)) [some (zr g (some this)), some (.int a1), some (.int a2), some (.int (x2 + 1)), some (.int a1), some (.int 1), some (.int (x5 + 1)), some (.int v6)] d_Reader_wordBetween_104 rfl rfl (by decide) rfl rfl ?_
      refine zj_goto 11 d_Reader_wordBetween_107 rfl ?_
      refine zj_cut [some (zr g (some this)), some (.int a1), some (.int a2), some (.int (x2 + 1)), some (.int a1), some (.int 1), some (.int (x5 + 1)), none] ⟨rfl, ⟨rfl, ⟨rfl, ⟨rfl, ⟨rfl, ⟨rfl, ⟨rfl, trivial⟩⟩⟩⟩⟩⟩⟩ ?_
      exact hr1 (x2 + 1) a1 1 (x5 + 1)
    refine zj_iload d_Reader_wordBetween_87 rfl ?_
    refine zj_iload_n d_Reader_wordBetween_89 rfl ?_
    refine zj_icmp_ne 95 d_Reader_wordBetween_90 rfl (fun _ => ?_) (fun _ => ?_)
    · refine zj_iinc (v := (x2 + 1)) [some (zr g (some this)), some (.int a1), some (.int a2), some (.int (x2 + 1)), some (.int x3), some (.int x4), some (.int x5), some (.int v6)] d_Reader_wordBetween_95 rfl rfl (by decide) rfl rfl ?_
      refine zj_iload_n d_Reader_wordBetween_98 rfl ?_
      refine zj_istore [some (zr g (some this)), some (.int a1), some (.int a2), some (.int (x2 + 1)), some (.int a1), some (.int x4), some (.int x5), some (.int v6)] d_Reader_wordBetween_99 (by decide) rfl rfl ?_
      refine zj_iconst 1 d_Reader_wordBetween_101 (by decide) ?_
      refine zj_istore [some (zr g (some this)), some (.int a1), some (.int a2), some (.int (x2 + 1)), some (.int a1), some (.int 1), some (.int x5), some (.int v6)] d_Reader_wordBetween_102 (by decide) rfl rfl ?_
      refine zj_iinc (v := (x5 + 1)) [some (zr g (some this)), some (.int a1), some (.int a2), some (.int (x2 + 1)), some (.int a1), some (.int 1), some (.int (x5 + 1)), some (.int v6)] d_Reader_wordBetween_104 rfl rfl (by decide) rfl rfl ?_
      refine zj_goto 11 d_Reader_wordBetween_107 rfl ?_
      refine zj_cut [some (zr g (some this)), some (.int a1), some (.int a2), some (.int (x2 + 1)), some (.int a1), some (.int 1), some (.int (x5 + 1)), none] ⟨rfl, ⟨rfl, ⟨rfl, ⟨rfl, ⟨rfl, ⟨rfl, ⟨rfl, trivial⟩⟩⟩⟩⟩⟩⟩ ?_
      exact hr1 (x2 + 1) a1 1 (x5 + 1)
    refine zj_iload_n d_Reader_wordBetween_93 rfl ?_
    exact zj_iret rfl rfl rfl rfl d_Reader_wordBetween_94
  refine zj_iload d_Reader_wordBetween_37 rfl ?_
  refine zj_if_eq 73 d_Reader_wordBetween_39 rfl (fun _ => ?_) (fun _ => ?_)
  · refine zj_iconst 0 d_Reader_wordBetween_73 (by decide) ?_
    refine zj_istore [some (zr g (some this)), some (.int a1), some (.int a2), some (.int x2), some (.int x3), some (.int 0), some (.int x5), some (.int v6)] d_Reader_wordBetween_74 (by decide) rfl rfl ?_
    refine zj_iinc (v := (x3 + 1)) [some (zr g (some this)), some (.int a1), some (.int a2), some (.int x2), some (.int (x3 + 1)), some (.int 0), some (.int x5), some (.int v6)] d_Reader_wordBetween_76 rfl rfl (by decide) rfl rfl ?_
    refine zj_goto 104 d_Reader_wordBetween_79 rfl ?_
    refine zj_iinc (v := (x5 + 1)) [some (zr g (some this)), some (.int a1), some (.int a2), some (.int x2), some (.int (x3 + 1)), some (.int 0), some (.int (x5 + 1)), some (.int v6)] d_Reader_wordBetween_104 rfl rfl (by decide) rfl rfl ?_
    refine zj_goto 11 d_Reader_wordBetween_107 rfl ?_
    refine zj_cut [some (zr g (some this)), some (.int a1), some (.int a2), some (.int x2), some (.int (x3 + 1)), some (.int 0), some (.int (x5 + 1)), none] ⟨rfl, ⟨rfl, ⟨rfl, ⟨rfl, ⟨rfl, ⟨rfl, ⟨rfl, trivial⟩⟩⟩⟩⟩⟩⟩ ?_
    exact hr1 x2 (x3 + 1) 0 (x5 + 1)
  refine zj_iload d_Reader_wordBetween_42 rfl ?_
  refine zj_iload_n d_Reader_wordBetween_44 rfl ?_
  refine zj_icmp_ge 73 d_Reader_wordBetween_45 rfl (fun _ => ?_) (fun _ => ?_)
  · refine zj_iconst 0 d_Reader_wordBetween_73 (by decide) ?_
    refine zj_istore [some (zr g (some this)), some (.int a1), some (.int a2), some (.int x2), some (.int x3), some (.int 0), some (.int x5), some (.int v6)] d_Reader_wordBetween_74 (by decide) rfl rfl ?_
    refine zj_iinc (v := (x3 + 1)) [some (zr g (some this)), some (.int a1), some (.int a2), some (.int x2), some (.int (x3 + 1)), some (.int 0), some (.int x5), some (.int v6)] d_Reader_wordBetween_76 rfl rfl (by decide) rfl rfl ?_
    refine zj_goto 104 d_Reader_wordBetween_79 rfl ?_
    refine zj_iinc (v := (x5 + 1)) [some (zr g (some this)), some (.int a1), some (.int a2), some (.int x2), some (.int (x3 + 1)), some (.int 0), some (.int (x5 + 1)), some (.int v6)] d_Reader_wordBetween_104 rfl rfl (by decide) rfl rfl ?_
    refine zj_goto 11 d_Reader_wordBetween_107 rfl ?_
    refine zj_cut [some (zr g (some this)), some (.int a1), some (.int a2), some (.int x2), some (.int (x3 + 1)), some (.int 0), some (.int (x5 + 1)), none] ⟨rfl, ⟨rfl, ⟨rfl, ⟨rfl, ⟨rfl, ⟨rfl, ⟨rfl, trivial⟩⟩⟩⟩⟩⟩⟩ ?_
    exact hr1 x2 (x3 + 1) 0 (x5 + 1)
  refine zj_iload d_Reader_wordBetween_48 rfl ?_
  refine zj_aload_n d_Reader_wordBetween_50 rfl ?_
  refine zj_getI fl_Reader_9 (fun _ _ _ _ => rfl) d_Reader_wordBetween_51 (fun v7 => ?_)
  refine zj_icmp_ge 73 d_Reader_wordBetween_54 rfl (fun _ => ?_) (fun _ => ?_)
  · refine zj_iconst 0 d_Reader_wordBetween_73 (by decide) ?_
    refine zj_istore [some (zr g (some this)), some (.int a1), some (.int a2), some (.int x2), some (.int x3), some (.int 0), some (.int x5), some (.int v6)] d_Reader_wordBetween_74 (by decide) rfl rfl ?_
    refine zj_iinc (v := (x3 + 1)) [some (zr g (some this)), some (.int a1), some (.int a2), some (.int x2), some (.int (x3 + 1)), some (.int 0), some (.int x5), some (.int v6)] d_Reader_wordBetween_76 rfl rfl (by decide) rfl rfl ?_
    refine zj_goto 104 d_Reader_wordBetween_79 rfl ?_
    refine zj_iinc (v := (x5 + 1)) [some (zr g (some this)), some (.int a1), some (.int a2), some (.int x2), some (.int (x3 + 1)), some (.int 0), some (.int (x5 + 1)), some (.int v6)] d_Reader_wordBetween_104 rfl rfl (by decide) rfl rfl ?_
    refine zj_goto 11 d_Reader_wordBetween_107 rfl ?_
    refine zj_cut [some (zr g (some this)), some (.int a1), some (.int a2), some (.int x2), some (.int (x3 + 1)), some (.int 0), some (.int (x5 + 1)), none] ⟨rfl, ⟨rfl, ⟨rfl, ⟨rfl, ⟨rfl, ⟨rfl, ⟨rfl, trivial⟩⟩⟩⟩⟩⟩⟩ ?_
    exact hr1 x2 (x3 + 1) 0 (x5 + 1)
  refine zj_aload_n d_Reader_wordBetween_57 rfl ?_
  refine zj_getR fl_Reader_15 (fun _ _ _ _ => rfl) d_Reader_wordBetween_58 (fun v8 => ?_)
  refine zj_iload d_Reader_wordBetween_61 rfl ?_
  refine zj_iaload d_Reader_wordBetween_63 (fun v9 => ?_)
  refine zj_iload d_Reader_wordBetween_64 rfl ?_
  refine zj_icmp_ne 73 d_Reader_wordBetween_66 rfl (fun _ => ?_) (fun _ => ?_)
  · refine zj_iconst 0 d_Reader_wordBetween_73 (by decide) ?_
    refine zj_istore [some (zr g (some this)), some (.int a1), some (.int a2), some (.int x2), some (.int x3), some (.int 0), some (.int x5), some (.int v6)] d_Reader_wordBetween_74 (by decide) rfl rfl ?_
    refine zj_iinc (v := (x3 + 1)) [some (zr g (some this)), some (.int a1), some (.int a2), some (.int x2), some (.int (x3 + 1)), some (.int 0), some (.int x5), some (.int v6)] d_Reader_wordBetween_76 rfl rfl (by decide) rfl rfl ?_
    refine zj_goto 104 d_Reader_wordBetween_79 rfl ?_
    refine zj_iinc (v := (x5 + 1)) [some (zr g (some this)), some (.int a1), some (.int a2), some (.int x2), some (.int (x3 + 1)), some (.int 0), some (.int (x5 + 1)), some (.int v6)] d_Reader_wordBetween_104 rfl rfl (by decide) rfl rfl ?_
    refine zj_goto 11 d_Reader_wordBetween_107 rfl ?_
    refine zj_cut [some (zr g (some this)), some (.int a1), some (.int a2), some (.int x2), some (.int (x3 + 1)), some (.int 0), some (.int (x5 + 1)), none] ⟨rfl, ⟨rfl, ⟨rfl, ⟨rfl, ⟨rfl, ⟨rfl, ⟨rfl, trivial⟩⟩⟩⟩⟩⟩⟩ ?_
    exact hr1 x2 (x3 + 1) 0 (x5 + 1)
  refine zj_iconst 1 d_Reader_wordBetween_69 (by decide) ?_
  refine zj_goto 74 d_Reader_wordBetween_70 rfl ?_
  refine zj_istore [some (zr g (some this)), some (.int a1), some (.int a2), some (.int x2), some (.int x3), some (.int 1), some (.int x5), some (.int v6)] d_Reader_wordBetween_74 (by decide) rfl rfl ?_
  refine zj_iinc (v := (x3 + 1)) [some (zr g (some this)), some (.int a1), some (.int a2), some (.int x2), some (.int (x3 + 1)), some (.int 1), some (.int x5), some (.int v6)] d_Reader_wordBetween_76 rfl rfl (by decide) rfl rfl ?_
  refine zj_goto 104 d_Reader_wordBetween_79 rfl ?_
  refine zj_iinc (v := (x5 + 1)) [some (zr g (some this)), some (.int a1), some (.int a2), some (.int x2), some (.int (x3 + 1)), some (.int 1), some (.int (x5 + 1)), some (.int v6)] d_Reader_wordBetween_104 rfl rfl (by decide) rfl rfl ?_
  refine zj_goto 11 d_Reader_wordBetween_107 rfl ?_
  refine zj_cut [some (zr g (some this)), some (.int a1), some (.int a2), some (.int x2), some (.int (x3 + 1)), some (.int 1), some (.int (x5 + 1)), none] ⟨rfl, ⟨rfl, ⟨rfl, ⟨rfl, ⟨rfl, ⟨rfl, ⟨rfl, trivial⟩⟩⟩⟩⟩⟩⟩ ?_
  exact hr1 x2 (x3 + 1) 1 (x5 + 1)
def F_Reader_takeWord (u0 : zS) (this : Nat) : Option (zS) := zfix1 (fun (r1 : zS → Option (zS)) (u2 : zS) => (zgI u2 5 (some this) 3).bind fun v3 => (zgI u2 5 (some this) 0).bind fun v4 => if v4 ≤ v3 then ((zgI u2 5 (some this) 5).bind fun v5 => (zgI u2 5 (some this) 3).bind fun v6 => (zob u2 5 (some this)).bind fun q8 => (F_Reader_wordBetween u2 q8 v5 v6).bind fun v7 => (zpI u2 5 (some this) 4 v7).bind fun u9 => some u9) else ((zgR u2 5 (some this) 1).bind fun v10 => (zgI u2 5 (some this) 3).bind fun v11 => (zaI u2 .int v10 v11).bind fun v12 => (F_Reader_isLetter u2 v12).bind fun v13 => if v13 = 0 then ((zgI u2 5 (some this) 5).bind fun v14 => (zgI u2 5 (some this) 3).bind fun v15 => (zob u2 5 (some this)).bind fun q17 => (F_Reader_wordBetween u2 q17 v14 v15).bind fun v16 => (zpI u2 5 (some this) 4 v16).bind fun u18 => some u18) else ((zgI u2 5 (some this) 3).bind fun v19 => (zpI u2 5 (some this) 3 (v19 + 1)).bind fun u20 => r1 u20))) zFU u0
set_option maxHeartbeats 4000000 in
set_option maxRecDepth 100000 in
theorem B_Reader_takeWord (g : zG) (d : Nat) {u0 : zS} {this : Nat} {o : zS} (h : F_Reader_takeWord u0 this = some o) : zMt g zy_Reader_takeWord (d + 8) 0 0 [zr g (some this)] u0 none o := by
  refine zMt_of2 (ls := [some (zr g (some this))]) 0 (by decide +kernel) (by simp [lg_sl, zr_cat, zcI, zcJ]) (by simp [zal, zr_cat, zcI, zcJ, List.replicate]) ?_
  revert h
  show zJ g zy_Reader_takeWord (d + 8) 0 0 zwV o 0 0 0 [some (zr g (some this))] [] u0 (F_Reader_takeWord u0 this)
  unfold F_Reader_takeWord
  refine zj_fix1 (fun u2 => [some (zr g (some this))]) (fun u2 => u2) (fun r1 hr1 u2 => ?_) u0
  refine zj_aload_n d_Reader_takeWord_0 rfl ?_
  refine zj_getI fl_Reader_19 (fun _ _ _ _ => rfl) d_Reader_takeWord_1 (fun v3 => ?_)
  refine zj_aload_n d_Reader_takeWord_4 rfl ?_
  refine zj_getI fl_Reader_9 (fun _ _ _ _ => rfl) d_Reader_takeWord_5 (fun v4 => ?_)
  refine zj_icmp_ge 39 d_Reader_takeWord_8 rfl (fun _ => ?_) (fun _ => ?_)
  · refine zj_aload_n d_Reader_takeWord_39 rfl ?_
    refine zj_aload_n d_Reader_takeWord_40 rfl ?_
    refine zj_aload_n d_Reader_takeWord_41 rfl ?_
    refine zj_getI fl_Reader_25 (fun _ _ _ _ => rfl) d_Reader_takeWord_42 (fun v5 => ?_)
    refine zj_aload_n d_Reader_takeWord_45 rfl ?_
    refine zj_getI fl_Reader_19 (fun _ _ _ _ => rfl) d_Reader_takeWord_46 (fun v6 => ?_)
    refine zj_cVIp (ci := 5) (T := zT5) (N := 8) [.int v5, .int v6] zm_V_Reader_wordBetween ml_Reader_96 rfl (fun _ _ h => B_Reader_wordBetween g (d) h) (Nat.le_refl _) ⟨Nat.zero_le _, Nat.zero_le _⟩ rfl rfl (by simp [zr_cat, zcI, zcJ]) d_Reader_takeWord_49 (fun v7 => ?_)
    refine zj_putI fl_Reader_22 (fun _ _ _ _ => rfl) ⟨rfl, rfl⟩ d_Reader_takeWord_52 (fun u9 => ?_)
    exact zj_vret rfl rfl rfl rfl d_Reader_takeWord_55
  refine zj_aload_n d_Reader_takeWord_11 rfl ?_
  refine zj_getR fl_Reader_15 (fun _ _ _ _ => rfl) d_Reader_takeWord_12 (fun v10 => ?_)
  refine zj_aload_n d_Reader_takeWord_15 rfl ?_
  refine zj_getI fl_Reader_19 (fun _ _ _ _ => rfl) d_Reader_takeWord_16 (fun v11 => ?_)
  refine zj_iaload d_Reader_takeWord_19 (fun v12 => ?_)
  refine zj_cSIp [.int v12] zm_S_Reader_isLetter ml_Reader_81 (fun _ h => B_Reader_isLetter g (d + 6) h) (Nat.le_refl _) ⟨Nat.zero_le _, Nat.zero_le _⟩ rfl rfl (by decide) d_Reader_takeWord_20 (fun v13 => ?_)
  refine zj_if_eq 39 d_Reader_takeWord_23 rfl (fun _ => ?_) (fun _ => ?_)
  · refine zj_aload_n d_Reader_takeWord_39 rfl ?_
    refine zj_aload_n d_Reader_takeWord_40 rfl ?_
    refine zj_aload_n d_Reader_takeWord_41 rfl ?_
    refine zj_getI fl_Reader_25 (fun _ _ _ _ => rfl) d_Reader_takeWord_42 (fun v14 => ?_)
    refine zj_aload_n d_Reader_takeWord_45 rfl ?_
    refine zj_getI fl_Reader_19 (fun _ _ _ _ => rfl) d_Reader_takeWord_46 (fun v15 => ?_)
    refine zj_cVIp (ci := 5) (T := zT5) (N := 8) [.int v14, .int v15] zm_V_Reader_wordBetween ml_Reader_96 rfl (fun _ _ h => B_Reader_wordBetween g (d) h) (Nat.le_refl _) ⟨Nat.zero_le _, Nat.zero_le _⟩ rfl rfl (by simp [zr_cat, zcI, zcJ]) d_Reader_takeWord_49 (fun v16 => ?_)
    refine zj_putI fl_Reader_22 (fun _ _ _ _ => rfl) ⟨rfl, rfl⟩ d_Reader_takeWord_52 (fun u18 => ?_)
    exact zj_vret rfl rfl rfl rfl d_Reader_takeWord_55
  refine zj_aload_n d_Reader_takeWord_26 rfl ?_
  refine zj_dup d_Reader_takeWord_27 (zr_cat _ _) ?_
  refine zj_getI fl_Reader_19 (fun _ _ _ _ => rfl) d_Reader_takeWord_28 (fun v19 => ?_)
  refine zj_iconst 1 d_Reader_takeWord_31 (by decide) ?_
  refine zj_iadd d_Reader_takeWord_32 ?_
  refine zj_putI fl_Reader_19 (fun _ _ _ _ => rfl) ⟨rfl, rfl⟩ d_Reader_takeWord_33 (fun u20 => ?_)
  refine zj_goto 0 d_Reader_takeWord_36 rfl ?_
  exact hr1 u20
def F_Reader_advance (u0 : zS) (this : Nat) : Option (zS) := zfix1 (fun (r1 : zS → Option (zS)) (u2 : zS) => (zgI u2 5 (some this) 3).bind fun v3 => (zgI u2 5 (some this) 0).bind fun v4 => if v4 ≤ v3 then ((zgI u2 5 (some this) 3).bind fun v5 => (zpI u2 5 (some this) 5 v5).bind fun u6 => (zgI u6 5 (some this) 3).bind fun v7 => (zgI u6 5 (some this) 0).bind fun v8 => if v7 < v8 then ((zgR u6 5 (some this) 1).bind fun v9 => (zgI u6 5 (some this) 3).bind fun v10 => (zaI u6 .int v9 v10).bind fun v11 => (F_Reader_isLetter u6 v11).bind fun v12 => if v12 = 0 then ((zgR u6 5 (some this) 1).bind fun v13 => (zgI u6 5 (some this) 3).bind fun v14 => (zaI u6 .int v13 v14).bind fun v15 => (F_Reader_isDigit u6 v15).bind fun v16 => if v16 = 0 then ((zgR u6 5 (some this) 1).bind fun v17 => (zgI u6 5 (some this) 3).bind fun v18 => (zaI u6 .int v17 v18).bind fun v19 => (F_Reader_isSign u6 v19).bind fun v20 => zjn1 (fun (j22 : Int32 → Option (zS)) => if v20 = 0 then (j22 14) else ((zgR u6 5 (some this) 1).bind fun v26 => (zgI u6 5 (some this) 3).bind fun v27 => (zaI u6 .int v26 v27).bind fun v28 => j22 v28)) (fun (x21 : Int32) => (zpI u6 5 (some this) 4 x21).bind fun u23 => (zgI u23 5 (some this) 3).bind fun v24 => (zpI u23 5 (some this) 3 (v24 + 1)).bind fun u25 => some u25)) else ((zob u6 5 (some this)).bind fun q31 => (F_Reader_takeNumber u6 q31 ).bind fun u30 => some u30)) else ((zob u6 5 (some this)).bind fun q34 => (F_Reader_takeWord u6 q34 ).bind fun u33 => some u33)) else ((zpI u6 5 (some this) 4 13).bind fun u35 => some u35)) else ((zgR u2 5 (some this) 1).bind fun v36 => (zgI u2 5 (some this) 3).bind fun v37 => (zaI u2 .int v36 v37).bind fun v38 => if v38 = 32 then ((zgI u2 5 (some this) 3).bind fun v39 => (zpI u2 5 (some this) 3 (v39 + 1)).bind fun u40 => r1 u40) else ((zgR u2 5 (some this) 1).bind fun v41 => (zgI u2 5 (some this) 3).bind fun v42 => (zaI u2 .int v41 v42).bind fun v43 => if v43 = 10 then ((zgI u2 5 (some this) 3).bind fun v75 => (zpI u2 5 (some this) 3 (v75 + 1)).bind fun u76 => r1 u76) else ((zgI u2 5 (some this) 3).bind fun v44 => (zpI u2 5 (some this) 5 v44).bind fun u45 => (zgI u45 5 (some this) 3).bind fun v46 => (zgI u45 5 (some this) 0).bind fun v47 => if v46 < v47 then ((zgR u45 5 (some this) 1).bind fun v48 => (zgI u45 5 (some this) 3).bind fun v49 => (zaI u45 .int v48 v49).bind fun v50 => (F_Reader_isLetter u45 v50).bind fun v51 => if v51 = 0 then ((zgR u45 5 (some this) 1).bind fun v52 => (zgI u45 5 (some this) 3).bind fun v53 => (zaI u45 .int v52 v53).bind fun v54 => (F_Reader_isDigit u45 v54).bind fun v55 => if v55 = 0 then ((zgR u45 5 (some this) 1).bind fun v56 => (zgI u45 5 (some this) 3).bind fun v57 => (zaI u45 .int v56 v57).bind fun v58 => (F_Reader_isSign u45 v58).bind fun v59 => zjn1 (fun (j61 : Int32 → Option (zS)) => if v59 = 0 then (j61 14) else ((zgR u45 5 (some this) 1).bind fun v65 => (zgI u45 5 (some this) 3).bind fun v66 => (zaI u45 .int v65 v66).bind fun v67 => j61 v67)) (fun (x60 : Int32) => (zpI u45 5 (some this) 4 x60).bind fun u62 => (zgI u62 5 (some this) 3).bind fun v63 => (zpI u62 5 (some this) 3 (v63 + 1)).bind fun u64 => some u64)) else ((zob u45 5 (some this)).bind fun q70 => (F_Reader_takeNumber u45 q70 ).bind fun u69 => some u69)) else ((zob u45 5 (some this)).bind fun q73 => (F_Reader_takeWord u45 q73 ).bind fun u72 => some u72)) else ((zpI u45 5 (some this) 4 13).bind fun u74 => some u74))))) zFU u0
set_option maxHeartbeats 4000000 in
set_option maxRecDepth 100000 in
theorem B_Reader_advance (g : zG) (d : Nat) {u0 : zS} {this : Nat} {o : zS} (h : F_Reader_advance u0 this = some o) : zMt g zy_Reader_advance (d + 9) 0 0 [zr g (some this)] u0 none o := by
  refine zMt_of2 (ls := [some (zr g (some this))]) 0 (by decide +kernel) (by simp [lg_sl, zr_cat, zcI, zcJ]) (by simp [zal, zr_cat, zcI, zcJ, List.replicate]) ?_
  revert h
  show zJ g zy_Reader_advance (d + 9) 0 0 zwV o 0 0 0 [some (zr g (some this))] [] u0 (F_Reader_advance u0 this)
  unfold F_Reader_advance
  refine zj_fix1 (fun u2 => [some (zr g (some this))]) (fun u2 => u2) (fun r1 hr1 u2 => ?_) u0
  refine zj_aload_n d_Reader_advance_0 rfl ?_
  refine zj_getI fl_Reader_19 (fun _ _ _ _ => rfl) d_Reader_advance_1 (fun v3 => ?_)
  refine zj_aload_n d_Reader_advance_4 rfl ?_
  refine zj_getI fl_Reader_9 (fun _ _ _ _ => rfl) d_Reader_advance_5 (fun v4 => ?_)
  refine zj_icmp_ge 52 d_Reader_advance_8 rfl (fun _ => ?_) (fun _ => ?_)
  · refine zj_aload_n d_Reader_advance_52 rfl ?_
    refine zj_aload_n d_Reader_advance_53 rfl ?_
    refine zj_getI fl_Reader_19 (fun _ _ _ _ => rfl) d_Reader_advance_54 (fun v5 => ?_)
    refine zj_putI fl_Reader_25 (fun _ _ _ _ => rfl) ⟨rfl, rfl⟩ d_Reader_advance_57 (fun u6 => ?_)
    refine zj_aload_n d_Reader_advance_60 rfl ?_
    refine zj_getI fl_Reader_19 (fun _ _ _ _ => rfl) d_Reader_advance_61 (fun v7 => ?_)
    refine zj_aload_n d_Reader_advance_64 rfl ?_
    refine zj_getI fl_Reader_9 (fun _ _ _ _ => rfl) d_Reader_advance_65 (fun v8 => ?_)
    refine zj_icmp_lt 80 d_Reader_advance_68 rfl (fun _ => ?_) (fun _ => ?_)
    · refine zj_aload_n d_Reader_advance_80 rfl ?_
      refine zj_getR fl_Reader_15 (fun _ _ _ _ => rfl) d_Reader_advance_81 (fun v9 => ?_)
      refine zj_aload_n d_Reader_advance_84 rfl ?_
      refine zj_getI fl_Reader_19 (fun _ _ _ _ => rfl) d_Reader_advance_85 (fun v10 => ?_)
      refine zj_iaload d_Reader_advance_88 (fun v11 => ?_)
      refine zj_cSIp [.int v11] zm_S_Reader_isLetter ml_Reader_81 (fun _ h => B_Reader_isLetter g (d + 7) h) (Nat.le_refl _) ⟨Nat.zero_le _, Nat.zero_le _⟩ rfl rfl (by decide) d_Reader_advance_89 (fun v12 => ?_)
      refine zj_if_eq 102 d_Reader_advance_92 rfl (fun _ => ?_) (fun _ => ?_)
      · refine zj_aload_n d_Reader_advance_102 rfl ?_
        refine zj_getR fl_Reader_15 (fun _ _ _ _ => rfl) d_Reader_advance_103 (fun v13 => ?_)
        refine zj_aload_n d_Reader_advance_106 rfl ?_
        refine zj_getI fl_Reader_19 (fun _ _ _ _ => rfl) d_Reader_advance_107 (fun v14 => ?_)
        refine zj_iaload d_Reader_advance_110 (fun v15 => ?_)
        refine zj_cSIp [.int v15] zm_S_Reader_isDigit ml_Reader_87 (fun _ h => B_Reader_isDigit g (d + 7) h) (Nat.le_refl _) ⟨Nat.zero_le _, Nat.zero_le _⟩ rfl rfl (by decide) d_Reader_advance_111 (fun v16 => ?_)
        refine zj_if_eq 124 d_Reader_advance_114 rfl (fun _ => ?_) (fun _ => ?_)
        · refine zj_aload_n d_Reader_advance_124 rfl ?_
          refine zj_aload_n d_Reader_advance_125 rfl ?_
          refine zj_getR fl_Reader_15 (fun _ _ _ _ => rfl) d_Reader_advance_126 (fun v17 => ?_)
          refine zj_aload_n d_Reader_advance_129 rfl ?_
          refine zj_getI fl_Reader_19 (fun _ _ _ _ => rfl) d_Reader_advance_130 (fun v18 => ?_)
          refine zj_iaload d_Reader_advance_133 (fun v19 => ?_)
          refine zj_cSIp [.int v19] zm_S_Reader_isSign ml_Reader_93 (fun _ h => B_Reader_isSign g (d + 7) h) (Nat.le_refl _) ⟨Nat.zero_le _, Nat.zero_le _⟩ rfl rfl (by simp [zr_cat, zcI, zcJ]) d_Reader_advance_134 (fun v20 => ?_)
          refine zj_jn1 (pcj := 154) (fun x21 => [some (zr g (some this))]) (fun x21 => [.int x21, zr g (some this)]) (fun x21 => u6) (fun x21 => ?_) (fun j22 hj22 => ?_)
          · refine zj_putI fl_Reader_22 (fun _ _ _ _ => rfl) ⟨rfl, rfl⟩ d_Reader_advance_154 (fun u23 => ?_)
            refine zj_aload_n d_Reader_advance_157 rfl ?_
            refine zj_dup d_Reader_advance_158 (zr_cat _ _) ?_
            refine zj_getI fl_Reader_19 (fun _ _ _ _ => rfl) d_Reader_advance_159 (fun v24 => ?_)
            refine zj_iconst 1 d_Reader_advance_162 (by decide) ?_
            refine zj_iadd d_Reader_advance_163 ?_
            refine zj_putI fl_Reader_19 (fun _ _ _ _ => rfl) ⟨rfl, rfl⟩ d_Reader_advance_164 (fun u25 => ?_)
            exact zj_vret rfl rfl rfl rfl d_Reader_advance_167
          refine zj_if_eq 152 d_Reader_advance_137 rfl (fun _ => ?_) (fun _ => ?_)
          · refine zj_bipush 14 d_Reader_advance_152 (by decide) ?_
            exact hj22 14
          refine zj_aload_n d_Reader_advance_140 rfl ?_
          refine zj_getR fl_Reader_15 (fun _ _ _ _ => rfl) d_Reader_advance_141 (fun v26 => ?_)
          refine zj_aload_n d_Reader_advance_144 rfl ?_
          refine zj_getI fl_Reader_19 (fun _ _ _ _ => rfl) d_Reader_advance_145 (fun v27 => ?_)
          refine zj_iaload d_Reader_advance_148 (fun v28 => ?_)
          refine zj_goto 154 d_Reader_advance_149 rfl ?_
          exact hj22 v28
        refine zj_aload_n d_Reader_advance_117 rfl ?_
        refine zj_cVU (ci := 5) (T := zT5) (N := 8) [] zm_V_Reader_takeNumber ml_Reader_90 rfl (fun _ _ h => B_Reader_takeNumber g (d + 6) h) (Nat.le_refl _) ⟨Nat.zero_le _, Nat.zero_le _⟩ rfl rfl (by decide) d_Reader_advance_118 (fun u30 => ?_)
        refine zj_goto 167 d_Reader_advance_121 rfl ?_
        exact zj_vret rfl rfl rfl rfl d_Reader_advance_167
      refine zj_aload_n d_Reader_advance_95 rfl ?_
      refine zj_cVU (ci := 5) (T := zT5) (N := 8) [] zm_V_Reader_takeWord ml_Reader_84 rfl (fun _ _ h => B_Reader_takeWord g (d) h) (Nat.le_refl _) ⟨Nat.zero_le _, Nat.zero_le _⟩ rfl rfl (by decide) d_Reader_advance_96 (fun u33 => ?_)
      refine zj_goto 167 d_Reader_advance_99 rfl ?_
      exact zj_vret rfl rfl rfl rfl d_Reader_advance_167
    refine zj_aload_n d_Reader_advance_71 rfl ?_
    refine zj_bipush 13 d_Reader_advance_72 (by decide) ?_
    refine zj_putI fl_Reader_22 (fun _ _ _ _ => rfl) ⟨rfl, rfl⟩ d_Reader_advance_74 (fun u35 => ?_)
    refine zj_goto 167 d_Reader_advance_77 rfl ?_
    exact zj_vret rfl rfl rfl rfl d_Reader_advance_167
  refine zj_aload_n d_Reader_advance_11 rfl ?_
  refine zj_getR fl_Reader_15 (fun _ _ _ _ => rfl) d_Reader_advance_12 (fun v36 => ?_)
  refine zj_aload_n d_Reader_advance_15 rfl ?_
  refine zj_getI fl_Reader_19 (fun _ _ _ _ => rfl) d_Reader_advance_16 (fun v37 => ?_)
  refine zj_iaload d_Reader_advance_19 (fun v38 => ?_)
  refine zj_bipush 32 d_Reader_advance_20 (by decide) ?_
  refine zj_icmp_eq 39 d_Reader_advance_22 rfl (fun _ => ?_) (fun _ => ?_)
  · refine zj_aload_n d_Reader_advance_39 rfl ?_
    refine zj_dup d_Reader_advance_40 (zr_cat _ _) ?_
    refine zj_getI fl_Reader_19 (fun _ _ _ _ => rfl) d_Reader_advance_41 (fun v39 => ?_)
    refine zj_iconst 1 d_Reader_advance_44 (by decide) ?_
    refine zj_iadd d_Reader_advance_45 ?_
    refine zj_putI fl_Reader_19 (fun _ _ _ _ => rfl) ⟨rfl, rfl⟩ d_Reader_advance_46 (fun u40 => ?_)
    refine zj_goto 0 d_Reader_advance_49 rfl ?_
    exact hr1 u40
  refine zj_aload_n d_Reader_advance_25 rfl ?_
  refine zj_getR fl_Reader_15 (fun _ _ _ _ => rfl) d_Reader_advance_26 (fun v41 => ?_)
  refine zj_aload_n d_Reader_advance_29 rfl ?_
  refine zj_getI fl_Reader_19 (fun _ _ _ _ => rfl) d_Reader_advance_30 (fun v42 => ?_)
  refine zj_iaload d_Reader_advance_33 (fun v43 => ?_)
  refine zj_bipush 10 d_Reader_advance_34 (by decide) ?_
  refine zj_icmp_ne 52 d_Reader_advance_36 rfl (fun _ => ?_) (fun _ => ?_)
  · refine zj_aload_n d_Reader_advance_52 rfl ?_
    refine zj_aload_n d_Reader_advance_53 rfl ?_
    refine zj_getI fl_Reader_19 (fun _ _ _ _ => rfl) d_Reader_advance_54 (fun v44 => ?_)
    refine zj_putI fl_Reader_25 (fun _ _ _ _ => rfl) ⟨rfl, rfl⟩ d_Reader_advance_57 (fun u45 => ?_)
    refine zj_aload_n d_Reader_advance_60 rfl ?_
    refine zj_getI fl_Reader_19 (fun _ _ _ _ => rfl) d_Reader_advance_61 (fun v46 => ?_)
    refine zj_aload_n d_Reader_advance_64 rfl ?_
    refine zj_getI fl_Reader_9 (fun _ _ _ _ => rfl) d_Reader_advance_65 (fun v47 => ?_)
    refine zj_icmp_lt 80 d_Reader_advance_68 rfl (fun _ => ?_) (fun _ => ?_)
    · refine zj_aload_n d_Reader_advance_80 rfl ?_
      refine zj_getR fl_Reader_15 (fun _ _ _ _ => rfl) d_Reader_advance_81 (fun v48 => ?_)
      refine zj_aload_n d_Reader_advance_84 rfl ?_
      refine zj_getI fl_Reader_19 (fun _ _ _ _ => rfl) d_Reader_advance_85 (fun v49 => ?_)
      refine zj_iaload d_Reader_advance_88 (fun v50 => ?_)
      refine zj_cSIp [.int v50] zm_S_Reader_isLetter ml_Reader_81 (fun _ h => B_Reader_isLetter g (d + 7) h) (Nat.le_refl _) ⟨Nat.zero_le _, Nat.zero_le _⟩ rfl rfl (by decide) d_Reader_advance_89 (fun v51 => ?_)
      refine zj_if_eq 102 d_Reader_advance_92 rfl (fun _ => ?_) (fun _ => ?_)
      · refine zj_aload_n d_Reader_advance_102 rfl ?_
        refine zj_getR fl_Reader_15 (fun _ _ _ _ => rfl) d_Reader_advance_103 (fun v52 => ?_)
        refine zj_aload_n d_Reader_advance_106 rfl ?_
        refine zj_getI fl_Reader_19 (fun _ _ _ _ => rfl) d_Reader_advance_107 (fun v53 => ?_)
        refine zj_iaload d_Reader_advance_110 (fun v54 => ?_)
        refine zj_cSIp [.int v54] zm_S_Reader_isDigit ml_Reader_87 (fun _ h => B_Reader_isDigit g (d + 7) h) (Nat.le_refl _) ⟨Nat.zero_le _, Nat.zero_le _⟩ rfl rfl (by decide) d_Reader_advance_111 (fun v55 => ?_)
        refine zj_if_eq 124 d_Reader_advance_114 rfl (fun _ => ?_) (fun _ => ?_)
        · refine zj_aload_n d_Reader_advance_124 rfl ?_
          refine zj_aload_n d_Reader_advance_125 rfl ?_
          refine zj_getR fl_Reader_15 (fun _ _ _ _ => rfl) d_Reader_advance_126 (fun v56 => ?_)
          refine zj_aload_n d_Reader_advance_129 rfl ?_
          refine zj_getI fl_Reader_19 (fun _ _ _ _ => rfl) d_Reader_advance_130 (fun v57 => ?_)
          refine zj_iaload d_Reader_advance_133 (fun v58 => ?_)
          refine zj_cSIp [.int v58] zm_S_Reader_isSign ml_Reader_93 (fun _ h => B_Reader_isSign g (d + 7) h) (Nat.le_refl _) ⟨Nat.zero_le _, Nat.zero_le _⟩ rfl rfl (by simp [zr_cat, zcI, zcJ]) d_Reader_advance_134 (fun v59 => ?_)
          refine zj_jn1 (pcj := 154) (fun x60 => [some (zr g (some this))]) (fun x60 => [.int x60, zr g (some this)]) (fun x60 => u45) (fun x60 => ?_) (fun j61 hj61 => ?_)
          · refine zj_putI fl_Reader_22 (fun _ _ _ _ => rfl) ⟨rfl, rfl⟩ d_Reader_advance_154 (fun u62 => ?_)
            refine zj_aload_n d_Reader_advance_157 rfl ?_
            refine zj_dup d_Reader_advance_158 (zr_cat _ _) ?_
            refine zj_getI fl_Reader_19 (fun _ _ _ _ => rfl) d_Reader_advance_159 (fun v63 => ?_)
            refine zj_iconst 1 d_Reader_advance_162 (by decide) ?_
            refine zj_iadd d_Reader_advance_163 ?_
            refine zj_putI fl_Reader_19 (fun _ _ _ _ => rfl) ⟨rfl, rfl⟩ d_Reader_advance_164 (fun u64 => ?_)
            exact zj_vret rfl rfl rfl rfl d_Reader_advance_167
          refine zj_if_eq 152 d_Reader_advance_137 rfl (fun _ => ?_) (fun _ => ?_)
          · refine zj_bipush 14 d_Reader_advance_152 (by decide) ?_
            exact hj61 14
          refine zj_aload_n d_Reader_advance_140 rfl ?_
          refine zj_getR fl_Reader_15 (fun _ _ _ _ => rfl) d_Reader_advance_141 (fun v65 => ?_)
          refine zj_aload_n d_Reader_advance_144 rfl ?_
          refine zj_getI fl_Reader_19 (fun _ _ _ _ => rfl) d_Reader_advance_145 (fun v66 => ?_)
          refine zj_iaload d_Reader_advance_148 (fun v67 => ?_)
          refine zj_goto 154 d_Reader_advance_149 rfl ?_
          exact hj61 v67
        refine zj_aload_n d_Reader_advance_117 rfl ?_
        refine zj_cVU (ci := 5) (T := zT5) (N := 8) [] zm_V_Reader_takeNumber ml_Reader_90 rfl (fun _ _ h => B_Reader_takeNumber g (d + 6) h) (Nat.le_refl _) ⟨Nat.zero_le _, Nat.zero_le _⟩ rfl rfl (by decide) d_Reader_advance_118 (fun u69 => ?_)
        refine zj_goto 167 d_Reader_advance_121 rfl ?_
        exact zj_vret rfl rfl rfl rfl d_Reader_advance_167
      refine zj_aload_n d_Reader_advance_95 rfl ?_
      refine zj_cVU (ci := 5) (T := zT5) (N := 8) [] zm_V_Reader_takeWord ml_Reader_84 rfl (fun _ _ h => B_Reader_takeWord g (d) h) (Nat.le_refl _) ⟨Nat.zero_le _, Nat.zero_le _⟩ rfl rfl (by decide) d_Reader_advance_96 (fun u72 => ?_)
      refine zj_goto 167 d_Reader_advance_99 rfl ?_
      exact zj_vret rfl rfl rfl rfl d_Reader_advance_167
    refine zj_aload_n d_Reader_advance_71 rfl ?_
    refine zj_bipush 13 d_Reader_advance_72 (by decide) ?_
    refine zj_putI fl_Reader_22 (fun _ _ _ _ => rfl) ⟨rfl, rfl⟩ d_Reader_advance_74 (fun u74 => ?_)
    refine zj_goto 167 d_Reader_advance_77 rfl ?_
    exact zj_vret rfl rfl rfl rfl d_Reader_advance_167
  refine zj_aload_n d_Reader_advance_39 rfl ?_
  refine zj_dup d_Reader_advance_40 (zr_cat _ _) ?_
  refine zj_getI fl_Reader_19 (fun _ _ _ _ => rfl) d_Reader_advance_41 (fun v75 => ?_)
  refine zj_iconst 1 d_Reader_advance_44 (by decide) ?_
  refine zj_iadd d_Reader_advance_45 ?_
  refine zj_putI fl_Reader_19 (fun _ _ _ _ => rfl) ⟨rfl, rfl⟩ d_Reader_advance_46 (fun u76 => ?_)
  refine zj_goto 0 d_Reader_advance_49 rfl ?_
  exact hr1 u76
