def F_M_findCan (u0 : zS) (this : Nat) : Option (zS) := zfix2 (fun (r1 : zS → Int32 → Option (zS)) (u2 : zS) (x3 : Int32) => (zgI u2 9 (some this) 4).bind fun v4 => if v4 ≤ x3 then (some u2) else ((zgR u2 9 (some this) 32).bind fun v5 => (zsI u2 v5 x3 0).bind fun u6 => zfix2 (fun (r7 : zS → Int32 → Option (zS)) (u8 : zS) (x9 : Int32) => (zgI u8 9 (some this) 1).bind fun v10 => if v10 ≤ x9 then (r1 u8 (x3 + 1)) else ((zgR u8 9 (some this) 32).bind fun v11 => (zaI u8 .int v11 x3).bind fun v12 => (zob u8 9 (some this)).bind fun q14 => (F_M_canDo u8 q14 x3 x9).bind fun v13 => if v13 = 0 then ((zsI u8 v11 x3 (v12 ||| 0)).bind fun u15 => r7 u15 (x9 + 1)) else ((zsI u8 v11 x3 (v12 ||| ((1 : Int32) <<< (x9 &&& 31)))).bind fun u16 => r7 u16 (x9 + 1)))) zFU u6 0)) zFU u0 0
set_option maxHeartbeats 4000000 in
set_option maxRecDepth 100000 in
theorem B_M_findCan (g : zG) (d : Nat) {u0 : zS} {this : Nat} {o : zS} (h : F_M_findCan u0 this = some o) : zMt g zy_M_findCan (d + 3) 0 0 [zr g (some this)] u0 none o := by
  refine zMt_of2 (ls := [some (zr g (some this)), none, none]) 2 (by decide +kernel) (by simp [lg_sl, zr_cat, zcI, zcJ]) (by simp [zal, zr_cat, zcI, zcJ, List.replicate]) ?_
  revert h
  show zJ g zy_M_findCan (d + 3) 0 0 zwV o 0 0 0 [some (zr g (some this)), none, none] [] u0 (F_M_findCan u0 this)
  unfold F_M_findCan
  refine zj_iconst 0 d_M_findCan_0 (by decide) ?_
  refine zj_istore_n [some (zr g (some this)), some (.int 0), none] d_M_findCan_1 (by decide) rfl rfl ?_
  refine zj_fix2 (fun u2 x3 => [some (zr g (some this)), some (.int x3), none]) (fun u2 x3 => u2) (fun r1 hr1 u2 x3 => ?_) u0 0
  refine zj_iload_n d_M_findCan_2 rfl ?_
  refine zj_aload_n d_M_findCan_3 rfl ?_
  refine zj_getI fl_M_113 (fun _ _ _ _ => rfl) d_M_findCan_4 (fun v4 => ?_)
  refine zj_icmp_ge 64 d_M_findCan_7 rfl (fun _ => ?_) (fun _ => ?_)
  · exact zj_vret rfl rfl rfl rfl d_M_findCan_64
  refine zj_aload_n d_M_findCan_10 rfl ?_
  refine zj_getR fl_M_67 (fun _ _ _ _ => rfl) d_M_findCan_11 (fun v5 => ?_)
  refine zj_iload_n d_M_findCan_14 rfl ?_
  refine zj_iconst 0 d_M_findCan_15 (by decide) ?_
  refine zj_iastore d_M_findCan_16 (fun u6 => ?_)
  refine zj_iconst 0 d_M_findCan_17 (by decide) ?_
  refine zj_istore_n [some (zr g (some this)), some (.int x3), some (.int 0)] d_M_findCan_18 (by decide) rfl rfl ?_
  refine zj_fix2 (fun u8 x9 => [some (zr g (some this)), some (.int x3), some (.int x9)]) (fun u8 x9 => u8) (fun r7 hr7 u8 x9 => ?_) u6 0
  refine zj_iload_n d_M_findCan_19 rfl ?_
  refine zj_aload_n d_M_findCan_20 rfl ?_
  refine zj_getI fl_M_106 (fun _ _ _ _ => rfl) d_M_findCan_21 (fun v10 => ?_)
  refine zj_icmp_ge 58 d_M_findCan_24 rfl (fun _ => ?_) (fun _ => ?_)
  · refine zj_iinc (v := (x3 + 1)) [some (zr g (some this)), some (.int (x3 + 1)), some (.int x9)] d_M_findCan_58 rfl rfl (by decide) rfl rfl ?_
    refine zj_goto 2 d_M_findCan_61 rfl ?_
    refine zj_cut [some (zr g (some this)), some (.int (x3 + 1)), none] ⟨rfl, ⟨rfl, trivial⟩⟩ ?_
    exact hr1 u8 (x3 + 1)
  refine zj_aload_n d_M_findCan_27 rfl ?_
  refine zj_getR fl_M_67 (fun _ _ _ _ => rfl) d_M_findCan_28 (fun v11 => ?_)
  refine zj_iload_n d_M_findCan_31 rfl ?_
  refine zj_dup2 d_M_findCan_32 rfl (zr_cat _ _) ?_
  refine zj_iaload d_M_findCan_33 (fun v12 => ?_)
  refine zj_aload_n d_M_findCan_34 rfl ?_
  refine zj_iload_n d_M_findCan_35 rfl ?_
  refine zj_iload_n d_M_findCan_36 rfl ?_
  refine zj_cVIp (ci := 9) (T := zT9) (N := 53) [.int x3, .int x9] zm_V_M_canDo ml_M_147 rfl (fun _ _ h => B_M_canDo g (d) h) (Nat.le_refl _) ⟨Nat.zero_le _, Nat.zero_le _⟩ rfl rfl (by simp [zr_cat, zcI, zcJ]) d_M_findCan_37 (fun v13 => ?_)
  refine zj_if_eq 49 d_M_findCan_40 rfl (fun _ => ?_) (fun _ => ?_)
  · refine zj_iconst 0 d_M_findCan_49 (by decide) ?_
    refine zj_ior d_M_findCan_50 ?_
    refine zj_iastore d_M_findCan_51 (fun u15 => ?_)
    refine zj_iinc (v := (x9 + 1)) [some (zr g (some this)), some (.int x3), some (.int (x9 + 1))] d_M_findCan_52 rfl rfl (by decide) rfl rfl ?_
    refine zj_goto 19 d_M_findCan_55 rfl ?_
    exact hr7 u15 (x9 + 1)
  refine zj_iconst 1 d_M_findCan_43 (by decide) ?_
  refine zj_iload_n d_M_findCan_44 rfl ?_
  refine zj_ishl d_M_findCan_45 ?_
  refine zj_goto 50 d_M_findCan_46 rfl ?_
  refine zj_ior d_M_findCan_50 ?_
  refine zj_iastore d_M_findCan_51 (fun u16 => ?_)
  refine zj_iinc (v := (x9 + 1)) [some (zr g (some this)), some (.int x3), some (.int (x9 + 1))] d_M_findCan_52 rfl rfl (by decide) rfl rfl ?_
  refine zj_goto 19 d_M_findCan_55 rfl ?_
  exact hr7 u16 (x9 + 1)
def F_M_isOne (u0 : zS) (this : Nat) (a1 : Int32) (a2 : Int32) : Option (Int32) := (F_M_in u0 ((a1 : Int32).toInt64) 0 5).bind fun v1 => if v1 = 0 then (some 0) else (if a2 < 0 then (some 0) else ((zob u0 9 (some this)).bind fun q3 => (F_M_isPost u0 q3 (a2 / 100)).bind fun v2 => if v2 = 0 then (some 0) else (some 1)))
set_option maxHeartbeats 4000000 in
set_option maxRecDepth 100000 in
theorem B_M_isOne (g : zG) (d : Nat) {u0 : zS} {this : Nat} {a1 : Int32} {a2 : Int32} {o : Int32} (h : F_M_isOne u0 this a1 a2 = some o) : zMt g zy_M_isOne (d + 3) 0 0 [zr g (some this), .int a1, .int a2] u0 (some (.int o)) u0 := by
  refine zMt_of2 (ls := [some (zr g (some this)), some (.int a1), some (.int a2)]) 0 (by decide +kernel) (by simp [lg_sl, zr_cat, zcI, zcJ]) (by simp [zal, zr_cat, zcI, zcJ, List.replicate]) ?_
  revert h
  show zJ g zy_M_isOne (d + 3) 0 0 (zwIp u0) o 0 0 0 [some (zr g (some this)), some (.int a1), some (.int a2)] [] u0 (F_M_isOne u0 this a1 a2)
  unfold F_M_isOne
  refine zj_iload_n d_M_isOne_0 rfl ?_
  refine zj_i2l d_M_isOne_1 ?_
  refine zj_lconst 0 d_M_isOne_2 (by decide) ?_
  refine zj_ldc2 cl_M_118 d_M_isOne_3 ?_
  refine zj_cSIp [.long ((a1 : Int32).toInt64), .long 0, .long 5] zm_S_M_in ml_M_109 (fun _ h => B_M_in g (d + 1) h) (Nat.le_refl _) ⟨Nat.zero_le _, Nat.zero_le _⟩ rfl rfl (by decide) d_M_isOne_6 (fun v1 => ?_)
  refine zj_if_eq 31 d_M_isOne_9 rfl (fun _ => ?_) (fun _ => ?_)
  · refine zj_iconst 0 d_M_isOne_31 (by decide) ?_
    exact zj_zretL (by decide) rfl rfl rfl rfl d_M_isOne_32
  refine zj_iload_n d_M_isOne_12 rfl ?_
  refine zj_if_lt 31 d_M_isOne_13 rfl (fun _ => ?_) (fun _ => ?_)
  · refine zj_iconst 0 d_M_isOne_31 (by decide) ?_
    exact zj_zretL (by decide) rfl rfl rfl rfl d_M_isOne_32
  refine zj_aload_n d_M_isOne_16 rfl ?_
  refine zj_iload_n d_M_isOne_17 rfl ?_
  refine zj_bipush 100 d_M_isOne_18 (by decide) ?_
  refine zj_idiv d_M_isOne_20 (by decide) ?_
  refine zj_cVIp (ci := 9) (T := zT9) (N := 53) [.int (a2 / 100)] zm_V_M_isPost ml_M_120 rfl (fun _ _ h => B_M_isPost g (d) h) (Nat.le_refl _) ⟨Nat.zero_le _, Nat.zero_le _⟩ rfl rfl (by decide) d_M_isOne_21 (fun v2 => ?_)
  refine zj_if_eq 31 d_M_isOne_24 rfl (fun _ => ?_) (fun _ => ?_)
  · refine zj_iconst 0 d_M_isOne_31 (by decide) ?_
    exact zj_zretL (by decide) rfl rfl rfl rfl d_M_isOne_32
  refine zj_iconst 1 d_M_isOne_27 (by decide) ?_
  refine zj_goto 32 d_M_isOne_28 rfl ?_
  exact zj_zretL (by decide) rfl rfl rfl rfl d_M_isOne_32
def F_M_judge (u0 : zS) (this : Nat) (a1 : Int32) (a2 : Int32) : Option (Int32) := (zob u0 9 (some this)).bind fun q2 => (F_M_areAway u0 q2 a1).bind fun v1 => if v1 = 0 then (some (-2)) else ((F_M_isSheet u0 a2).bind fun v3 => if v3 = 0 then (some (-2)) else ((zgR u0 9 (some this) 49).bind fun v4 => (zaI u0 .int v4 a2).bind fun v5 => if 0 ≤ v5 then ((zgR u0 9 (some this) 50).bind fun v6 => (zaI u0 .int v6 a2).bind fun v7 => (zgI u0 9 (some this) 1).bind fun v8 => if v7 = v8 then (zfix2 (fun (r9 : Int32 → Int32 → Option (Int32)) (x10 : Int32) (x11 : Int32) => (zgI u0 9 (some this) 1).bind fun v12 => if v12 ≤ x11 then (some (-1)) else ((zgR u0 9 (some this) 51).bind fun v13 => (zaI u0 .int v13 (((40 : Int32) * a2) + x11)).bind fun v14 => if v14 = (-1) then ((zgR u0 9 (some this) 2).bind fun v20 => (zaI u0 .boolean v20 x11).bind fun v21 => if v21 = 0 then (if v14 = (-1) then (r9 x10 (x11 + 1)) else ((zob u0 9 (some this)).bind fun q23 => (F_M_isPerson u0 q23 v14).bind fun v22 => if v22 = 0 then (some ((10 : Int32) + x11)) else (if ((x10 >>> (v14 &&& 31)) &&& 1) = 1 then (some ((10 : Int32) + x11)) else ((zob u0 9 (some this)).bind fun q25 => (F_M_canDo u0 q25 v14 x11).bind fun v24 => if v24 = 0 then (some ((20 : Int32) + x11)) else (zlet ((x10 ||| ((1 : Int32) <<< (v14 &&& 31))) : Int32) fun x26 => r9 x26 (x11 + 1)))))) else (some ((30 : Int32) + x11))) else (if v14 = (-1) then (r9 x10 (x11 + 1)) else ((zob u0 9 (some this)).bind fun q16 => (F_M_isPerson u0 q16 v14).bind fun v15 => if v15 = 0 then (some ((10 : Int32) + x11)) else (if ((x10 >>> (v14 &&& 31)) &&& 1) = 1 then (some ((10 : Int32) + x11)) else ((zob u0 9 (some this)).bind fun q18 => (F_M_canDo u0 q18 v14 x11).bind fun v17 => if v17 = 0 then (some ((20 : Int32) + x11)) else (zlet ((x10 ||| ((1 : Int32) <<< (v14 &&& 31))) : Int32) fun x19 => r9 x19 (x11 + 1)))))))) zFU a1 0) else (some (-2))) else (some (-11))))
set_option maxHeartbeats 4000000 in
set_option maxRecDepth 100000 in
theorem B_M_judge (g : zG) (d : Nat) {u0 : zS} {this : Nat} {a1 : Int32} {a2 : Int32} {o : Int32} (h : F_M_judge u0 this a1 a2 = some o) : zMt g zy_M_judge (d + 3) 0 0 [zr g (some this), .int a1, .int a2] u0 (some (.int o)) u0 := by
  refine zMt_of2 (ls := [some (zr g (some this)), some (.int a1), some (.int a2), none, none, none]) 3 (by decide +kernel) (by simp [lg_sl, zr_cat, zcI, zcJ]) (by simp [zal, zr_cat, zcI, zcJ, List.replicate]) ?_
  revert h
  show zJ g zy_M_judge (d + 3) 0 0 (zwIp u0) o 0 0 0 [some (zr g (some this)), some (.int a1), some (.int a2), none, none, none] [] u0 (F_M_judge u0 this a1 a2)
  unfold F_M_judge
  refine zj_aload_n d_M_judge_0 rfl ?_
  refine zj_iload_n d_M_judge_1 rfl ?_
  refine zj_cVIp (ci := 9) (T := zT9) (N := 53) [.int a1] zm_V_M_areAway ml_M_276 rfl (fun _ _ h => B_M_areAway g (d + 1) h) (Nat.le_refl _) ⟨Nat.zero_le _, Nat.zero_le _⟩ rfl rfl (by decide) d_M_judge_2 (fun v1 => ?_)
  refine zj_if_eq 15 d_M_judge_5 rfl (fun _ => ?_) (fun _ => ?_)
  · refine zj_bipush (-2) d_M_judge_15 (by decide) ?_
    exact zj_iret rfl rfl rfl rfl d_M_judge_17
  refine zj_iload_n d_M_judge_8 rfl ?_
  refine zj_cSIp [.int a2] zm_S_M_isSheet ml_M_339 (fun _ h => B_M_isSheet g (d) h) (Nat.le_refl _) ⟨Nat.zero_le _, Nat.zero_le _⟩ rfl rfl (by decide) d_M_judge_9 (fun v3 => ?_)
  refine zj_if_ne 18 d_M_judge_12 rfl (fun _ => ?_) (fun _ => ?_)
  · refine zj_aload_n d_M_judge_18 rfl ?_
    refine zj_getR fl_M_91 (fun _ _ _ _ => rfl) d_M_judge_19 (fun v4 => ?_)
    refine zj_iload_n d_M_judge_22 rfl ?_
    refine zj_iaload d_M_judge_23 (fun v5 => ?_)
    refine zj_if_ge 30 d_M_judge_24 rfl (fun _ => ?_) (fun _ => ?_)
    · refine zj_aload_n d_M_judge_30 rfl ?_
      refine zj_getR fl_M_94 (fun _ _ _ _ => rfl) d_M_judge_31 (fun v6 => ?_)
      refine zj_iload_n d_M_judge_34 rfl ?_
      refine zj_iaload d_M_judge_35 (fun v7 => ?_)
      refine zj_aload_n d_M_judge_36 rfl ?_
      refine zj_getI fl_M_106 (fun _ _ _ _ => rfl) d_M_judge_37 (fun v8 => ?_)
      refine zj_icmp_eq 46 d_M_judge_40 rfl (fun _ => ?_) (fun _ => ?_)
      · refine zj_iload_n d_M_judge_46 rfl ?_
        refine zj_istore_n [some (zr g (some this)), some (.int a1), some (.int a2), some (.int a1), none, none] d_M_judge_47 (by decide) rfl rfl ?_
        refine zj_iconst 0 d_M_judge_48 (by decide) ?_
        refine zj_istore [some (zr g (some this)), some (.int a1), some (.int a2), some (.int a1), some (.int 0), none] d_M_judge_49 (by decide) rfl rfl ?_
        refine zj_cut [some (zr g (some this)), none, some (.int a2), some (.int a1), some (.int 0), none] ⟨rfl, ⟨rfl, ⟨rfl, ⟨rfl, trivial⟩⟩⟩⟩ ?_
        refine zj_fix2 (fun x10 x11 => [some (zr g (some this)), none, some (.int a2), some (.int x10), some (.int x11), none]) (fun x10 x11 => u0) (fun r9 hr9 x10 x11 => ?_) a1 0
        refine zj_iload d_M_judge_51 rfl ?_
        refine zj_aload_n d_M_judge_53 rfl ?_
        refine zj_getI fl_M_106 (fun _ _ _ _ => rfl) d_M_judge_54 (fun v12 => ?_)
        refine zj_icmp_ge 160 d_M_judge_57 rfl (fun _ => ?_) (fun _ => ?_)
        · refine zj_iconst (-1) d_M_judge_160 (by decide) ?_
          exact zj_iret rfl rfl rfl rfl d_M_judge_161
        refine zj_aload_n d_M_judge_60 rfl ?_
        refine zj_getR fl_M_97 (fun _ _ _ _ => rfl) d_M_judge_61 (fun v13 => ?_)
        refine zj_bipush 40 d_M_judge_64 (by decide) ?_
        refine zj_iload_n d_M_judge_66 rfl ?_
        refine zj_imul d_M_judge_67 ?_
        refine zj_iload d_M_judge_68 rfl ?_
        refine zj_iadd d_M_judge_70 ?_
        refine zj_iaload d_M_judge_71 (fun v14 => ?_)
        refine zj_istore [some (zr g (some this)), none, some (.int a2), some (.int x10), some (.int x11), some (.int v14)] d_M_judge_72 (by decide) rfl rfl ?_
        refine zj_iload d_M_judge_74 rfl ?_
        refine zj_iconst (-1) d_M_judge_76 (by decide) ?_
        refine zj_icmp_ne 96 d_M_judge_77 rfl (fun _ => ?_) (fun _ => ?_)
        · refine zj_iload d_M_judge_96 rfl ?_
          refine zj_iconst (-1) d_M_judge_98 (by decide) ?_
          refine zj_icmp_ne 105 d_M_judge_99 rfl (fun _ => ?_) (fun _ => ?_)
          · refine zj_aload_n d_M_judge_105 rfl ?_
            refine zj_iload d_M_judge_106 rfl ?_
            refine zj_cVIp (ci := 9) (T := zT9) (N := 53) [.int v14] zm_V_M_isPerson ml_M_133 rfl (fun _ _ h => B_M_isPerson g (d) h) (Nat.le_refl _) ⟨Nat.zero_le _, Nat.zero_le _⟩ rfl rfl (by decide) d_M_judge_108 (fun v15 => ?_)
            refine zj_if_eq 124 d_M_judge_111 rfl (fun _ => ?_) (fun _ => ?_)
            · refine zj_bipush 10 d_M_judge_124 (by decide) ?_
              refine zj_iload d_M_judge_126 rfl ?_
              refine zj_iadd d_M_judge_128 ?_
              exact zj_iret rfl rfl rfl rfl d_M_judge_129
            refine zj_iload_n d_M_judge_114 rfl ?_
            refine zj_iload d_M_judge_115 rfl ?_
            refine zj_ishr d_M_judge_117 ?_
            refine zj_iconst 1 d_M_judge_118 (by decide) ?_
            refine zj_iand d_M_judge_119 ?_
            refine zj_iconst 1 d_M_judge_120 (by decide) ?_
            refine zj_icmp_ne 130 d_M_judge_121 rfl (fun _ => ?_) (fun _ => ?_)
            · refine zj_aload_n d_M_judge_130 rfl ?_
              refine zj_iload d_M_judge_131 rfl ?_
              refine zj_iload d_M_judge_133 rfl ?_
              refine zj_cVIp (ci := 9) (T := zT9) (N := 53) [.int v14, .int x11] zm_V_M_canDo ml_M_147 rfl (fun _ _ h => B_M_canDo g (d) h) (Nat.le_refl _) ⟨Nat.zero_le _, Nat.zero_le _⟩ rfl rfl (by decide) d_M_judge_135 (fun v17 => ?_)
              refine zj_if_ne 147 d_M_judge_138 rfl (fun _ => ?_) (fun _ => ?_)
              · refine zj_iload_n d_M_judge_147 rfl ?_
                refine zj_iconst 1 d_M_judge_148 (by decide) ?_
                refine zj_iload d_M_judge_149 rfl ?_
                refine zj_ishl d_M_judge_151 ?_
                refine zj_ior d_M_judge_152 ?_
                refine zj_letI (fun x19 => ?_)
                refine zj_istore_n [some (zr g (some this)), none, some (.int a2), some (.int x19), some (.int x11), some (.int v14)] d_M_judge_153 (by decide) rfl rfl ?_
                refine zj_iinc (v := (x11 + 1)) [some (zr g (some this)), none, some (.int a2), some (.int x19), some (.int (x11 + 1)), some (.int v14)] d_M_judge_154 rfl rfl (by decide) rfl rfl ?_
                refine zj_goto 51 d_M_judge_157 rfl ?_
                refine zj_cut [some (zr g (some this)), none, some (.int a2), some (.int x19), some (.int (x11 + 1)), none] ⟨rfl, ⟨rfl, ⟨rfl, ⟨rfl, trivial⟩⟩⟩⟩ ?_
                exact hr9 x19 (x11 + 1)
              refine zj_bipush 20 d_M_judge_141 (by decide) ?_
              refine zj_iload d_M_judge_143 rfl ?_
              refine zj_iadd d_M_judge_145 ?_
              exact zj_iret rfl rfl rfl rfl d_M_judge_146
            refine zj_bipush 10 d_M_judge_124 (by decide) ?_
            refine zj_iload d_M_judge_126 rfl ?_
            refine zj_iadd d_M_judge_128 ?_
            exact zj_iret rfl rfl rfl rfl d_M_judge_129
          refine zj_goto 154 d_M_judge_102 rfl ?_
          refine zj_iinc (v := (x11 + 1)) [some (zr g (some this)), none, some (.int a2), some (.int x10), some (.int (x11 + 1)), some (.int v14)] d_M_judge_154 rfl rfl (by decide) rfl rfl ?_
          refine zj_goto 51 d_M_judge_157 rfl ?_
          refine zj_cut [some (zr g (some this)), none, some (.int a2), some (.int x10), some (.int (x11 + 1)), none] ⟨rfl, ⟨rfl, ⟨rfl, ⟨rfl, trivial⟩⟩⟩⟩ ?_
          exact hr9 x10 (x11 + 1)
        refine zj_aload_n d_M_judge_80 rfl ?_
        refine zj_getR fl_M_13 (fun _ _ _ _ => rfl) d_M_judge_81 (fun v20 => ?_)
        refine zj_iload d_M_judge_84 rfl ?_
        refine zj_zaload d_M_judge_86 (fun v21 => ?_)
        refine zj_if_eq 96 d_M_judge_87 rfl (fun _ => ?_) (fun _ => ?_)
        · refine zj_iload d_M_judge_96 rfl ?_
          refine zj_iconst (-1) d_M_judge_98 (by decide) ?_
          refine zj_icmp_ne 105 d_M_judge_99 rfl (fun _ => ?_) (fun _ => ?_)
          · refine zj_aload_n d_M_judge_105 rfl ?_
            refine zj_iload d_M_judge_106 rfl ?_
            refine zj_cVIp (ci := 9) (T := zT9) (N := 53) [.int v14] zm_V_M_isPerson ml_M_133 rfl (fun _ _ h => B_M_isPerson g (d) h) (Nat.le_refl _) ⟨Nat.zero_le _, Nat.zero_le _⟩ rfl rfl (by decide) d_M_judge_108 (fun v22 => ?_)
            refine zj_if_eq 124 d_M_judge_111 rfl (fun _ => ?_) (fun _ => ?_)
            · refine zj_bipush 10 d_M_judge_124 (by decide) ?_
              refine zj_iload d_M_judge_126 rfl ?_
              refine zj_iadd d_M_judge_128 ?_
              exact zj_iret rfl rfl rfl rfl d_M_judge_129
            refine zj_iload_n d_M_judge_114 rfl ?_
            refine zj_iload d_M_judge_115 rfl ?_
            refine zj_ishr d_M_judge_117 ?_
            refine zj_iconst 1 d_M_judge_118 (by decide) ?_
            refine zj_iand d_M_judge_119 ?_
            refine zj_iconst 1 d_M_judge_120 (by decide) ?_
            refine zj_icmp_ne 130 d_M_judge_121 rfl (fun _ => ?_) (fun _ => ?_)
            · refine zj_aload_n d_M_judge_130 rfl ?_
              refine zj_iload d_M_judge_131 rfl ?_
              refine zj_iload d_M_judge_133 rfl ?_
              refine zj_cVIp (ci := 9) (T := zT9) (N := 53) [.int v14, .int x11] zm_V_M_canDo ml_M_147 rfl (fun _ _ h => B_M_canDo g (d) h) (Nat.le_refl _) ⟨Nat.zero_le _, Nat.zero_le _⟩ rfl rfl (by decide) d_M_judge_135 (fun v24 => ?_)
              refine zj_if_ne 147 d_M_judge_138 rfl (fun _ => ?_) (fun _ => ?_)
              · refine zj_iload_n d_M_judge_147 rfl ?_
                refine zj_iconst 1 d_M_judge_148 (by decide) ?_
                refine zj_iload d_M_judge_149 rfl ?_
                refine zj_ishl d_M_judge_151 ?_
                refine zj_ior d_M_judge_152 ?_
                refine zj_letI (fun x26 => ?_)
                refine zj_istore_n [some (zr g (some this)), none, some (.int a2), some (.int x26), some (.int x11), some (.int v14)] d_M_judge_153 (by decide) rfl rfl ?_
                refine zj_iinc (v := (x11 + 1)) [some (zr g (some this)), none, some (.int a2), some (.int x26), some (.int (x11 + 1)), some (.int v14)] d_M_judge_154 rfl rfl (by decide) rfl rfl ?_
                refine zj_goto 51 d_M_judge_157 rfl ?_
                refine zj_cut [some (zr g (some this)), none, some (.int a2), some (.int x26), some (.int (x11 + 1)), none] ⟨rfl, ⟨rfl, ⟨rfl, ⟨rfl, trivial⟩⟩⟩⟩ ?_
                exact hr9 x26 (x11 + 1)
              refine zj_bipush 20 d_M_judge_141 (by decide) ?_
              refine zj_iload d_M_judge_143 rfl ?_
              refine zj_iadd d_M_judge_145 ?_
              exact zj_iret rfl rfl rfl rfl d_M_judge_146
            refine zj_bipush 10 d_M_judge_124 (by decide) ?_
            refine zj_iload d_M_judge_126 rfl ?_
            refine zj_iadd d_M_judge_128 ?_
            exact zj_iret rfl rfl rfl rfl d_M_judge_129
          refine zj_goto 154 d_M_judge_102 rfl ?_
          refine zj_iinc (v := (x11 + 1)) [some (zr g (some this)), none, some (.int a2), some (.int x10), some (.int (x11 + 1)), some (.int v14)] d_M_judge_154 rfl rfl (by decide) rfl rfl ?_
          refine zj_goto 51 d_M_judge_157 rfl ?_
          refine zj_cut [some (zr g (some this)), none, some (.int a2), some (.int x10), some (.int (x11 + 1)), none] ⟨rfl, ⟨rfl, ⟨rfl, ⟨rfl, trivial⟩⟩⟩⟩ ?_
          exact hr9 x10 (x11 + 1)
        refine zj_bipush 30 d_M_judge_90 (by decide) ?_
        refine zj_iload d_M_judge_92 rfl ?_
        refine zj_iadd d_M_judge_94 ?_
        exact zj_iret rfl rfl rfl rfl d_M_judge_95
      refine zj_bipush (-2) d_M_judge_43 (by decide) ?_
      exact zj_iret rfl rfl rfl rfl d_M_judge_45
    refine zj_bipush (-11) d_M_judge_27 (by decide) ?_
    exact zj_iret rfl rfl rfl rfl d_M_judge_29
  refine zj_bipush (-2) d_M_judge_15 (by decide) ?_
  exact zj_iret rfl rfl rfl rfl d_M_judge_17
def F_M_next (u0 : zS) (this : Nat) : Option (zS) := zfix1 (fun (r1 : zS → Option (zS)) (u2 : zS) => (zgI u2 9 (some this) 23).bind fun v3 => (zob u2 9 (some this)).bind fun q5 => (F_M_byteAt u2 q5 v3).bind fun v4 => if v4 = 32 then ((zgI u2 9 (some this) 23).bind fun v6 => (zpI u2 9 (some this) 23 (v6 + 1)).bind fun u7 => r1 u7) else ((zgI u2 9 (some this) 23).bind fun v8 => (zob u2 9 (some this)).bind fun q10 => (F_M_byteAt u2 q10 v8).bind fun v9 => if v9 = 10 then ((zgI u2 9 (some this) 23).bind fun v64 => (zpI u2 9 (some this) 23 (v64 + 1)).bind fun u65 => r1 u65) else ((zgI u2 9 (some this) 23).bind fun v11 => (zpI u2 9 (some this) 22 v11).bind fun u12 => (zgI u12 9 (some this) 23).bind fun v13 => (zob u12 9 (some this)).bind fun q15 => (F_M_byteAt u12 q15 v13).bind fun v14 => if 0 ≤ v14 then ((F_M_isLetter u12 v14).bind fun v16 => if v16 = 0 then ((F_M_isDigit u12 v14).bind fun v17 => if v17 = 0 then ((F_M_isSignByte u12 v14).bind fun v18 => zjn1 (fun (j20 : Int32 → Option (zS)) => if v18 = 0 then (j20 5) else (j20 4)) (fun (x19 : Int32) => (zpI u12 9 (some this) 24 x19).bind fun u21 => (zpI u21 9 (some this) 25 v14).bind fun u22 => (zgI u22 9 (some this) 23).bind fun v23 => (zpI u22 9 (some this) 23 (v23 + 1)).bind fun u24 => some u24)) else ((zpI u12 9 (some this) 25 0).bind fun u25 => zfix1 (fun (r26 : zS → Option (zS)) (u27 : zS) => (zgI u27 9 (some this) 23).bind fun v28 => (zob u27 9 (some this)).bind fun q30 => (F_M_byteAt u27 q30 v28).bind fun v29 => (F_M_isDigit u27 v29).bind fun v31 => if v31 = 0 then ((zgI u27 9 (some this) 23).bind fun v32 => (zgI u27 9 (some this) 22).bind fun v33 => if (v32 - v33) ≤ 4 then ((zpI u27 9 (some this) 24 1).bind fun u34 => some u34) else ((zpI u27 9 (some this) 24 5).bind fun u35 => some u35)) else ((zgI u27 9 (some this) 23).bind fun v36 => (zgI u27 9 (some this) 22).bind fun v37 => zjn1 (fun (j39 : Int32 → Option (zS)) => if 4 ≤ (v36 - v37) then ((zgI u27 9 (some this) 25).bind fun v43 => j39 v43) else ((zgI u27 9 (some this) 25).bind fun v44 => (zgI u27 9 (some this) 23).bind fun v45 => (zob u27 9 (some this)).bind fun q47 => (F_M_byteAt u27 q47 v45).bind fun v46 => j39 ((((10 : Int32) * v44) + v46) - 48))) (fun (x38 : Int32) => (zpI u27 9 (some this) 25 x38).bind fun u40 => (zgI u40 9 (some this) 23).bind fun v41 => (zpI u40 9 (some this) 23 (v41 + 1)).bind fun u42 => r26 u42))) zFU u25)) else (zfix1 (fun (r48 : zS → Option (zS)) (u49 : zS) => (zgI u49 9 (some this) 23).bind fun v50 => (zob u49 9 (some this)).bind fun q52 => (F_M_byteAt u49 q52 v50).bind fun v51 => (F_M_isLetter u49 v51).bind fun v53 => if v53 = 0 then ((zob u49 9 (some this)).bind fun q55 => (F_M_wordOf u49 q55 ).bind fun v54 => zjn1 (fun (j57 : Int32 → Option (zS)) => if 0 ≤ v54 then (if 6 ≤ v54 then (j57 3) else (j57 2)) else (j57 5)) (fun (x56 : Int32) => (zpI u49 9 (some this) 24 x56).bind fun u58 => if 6 ≤ v54 then ((zpI u58 9 (some this) 25 (v54 - 6)).bind fun u59 => some u59) else ((zpI u58 9 (some this) 25 v54).bind fun u60 => some u60))) else ((zgI u49 9 (some this) 23).bind fun v61 => (zpI u49 9 (some this) 23 (v61 + 1)).bind fun u62 => r48 u62)) zFU u12)) else ((zpI u12 9 (some this) 24 0).bind fun u63 => some u63)))) zFU u0
set_option maxHeartbeats 4000000 in
set_option maxRecDepth 100000 in
theorem B_M_next (g : zG) (d : Nat) {u0 : zS} {this : Nat} {o : zS} (h : F_M_next u0 this = some o) : zMt g zy_M_next (d + 3) 0 0 [zr g (some this)] u0 none o := by
  refine zMt_of2 (ls := [some (zr g (some this)), none, none]) 2 (by decide +kernel) (by simp [lg_sl, zr_cat, zcI, zcJ]) (by simp [zal, zr_cat, zcI, zcJ, List.replicate]) ?_
  revert h
  show zJ g zy_M_next (d + 3) 0 0 zwV o 0 0 0 [some (zr g (some this)), none, none] [] u0 (F_M_next u0 this)
  unfold F_M_next
  refine zj_fix1 (fun u2 => [some (zr g (some this)), none, none]) (fun u2 => u2) (fun r1 hr1 u2 => ?_) u0
  refine zj_aload_n d_M_next_0 rfl ?_
  refine zj_aload_n d_M_next_1 rfl ?_
  refine zj_getI fl_M_169 (fun _ _ _ _ => rfl) d_M_next_2 (fun v3 => ?_)
  refine zj_cVIp (ci := 9) (T := zT9) (N := 53) [.int v3] zm_V_M_byteAt ml_M_180 rfl (fun _ _ h => B_M_byteAt g (d + 1) h) (Nat.le_refl _) ⟨Nat.zero_le _, Nat.zero_le _⟩ rfl rfl (by decide) d_M_next_5 (fun v4 => ?_)
  refine zj_bipush 32 d_M_next_8 (by decide) ?_
  refine zj_icmp_eq 26 d_M_next_10 rfl (fun _ => ?_) (fun _ => ?_)
  · refine zj_aload_n d_M_next_26 rfl ?_
    refine zj_dup d_M_next_27 (zr_cat _ _) ?_
    refine zj_getI fl_M_169 (fun _ _ _ _ => rfl) d_M_next_28 (fun v6 => ?_)
    refine zj_iconst 1 d_M_next_31 (by decide) ?_
    refine zj_iadd d_M_next_32 ?_
    refine zj_putI fl_M_169 (fun _ _ _ _ => rfl) ⟨rfl, rfl⟩ d_M_next_33 (fun u7 => ?_)
    refine zj_goto 0 d_M_next_36 rfl ?_
    exact hr1 u7
  refine zj_aload_n d_M_next_13 rfl ?_
  refine zj_aload_n d_M_next_14 rfl ?_
  refine zj_getI fl_M_169 (fun _ _ _ _ => rfl) d_M_next_15 (fun v8 => ?_)
  refine zj_cVIp (ci := 9) (T := zT9) (N := 53) [.int v8] zm_V_M_byteAt ml_M_180 rfl (fun _ _ h => B_M_byteAt g (d + 1) h) (Nat.le_refl _) ⟨Nat.zero_le _, Nat.zero_le _⟩ rfl rfl (by decide) d_M_next_18 (fun v9 => ?_)
  refine zj_bipush 10 d_M_next_21 (by decide) ?_
  refine zj_icmp_ne 39 d_M_next_23 rfl (fun _ => ?_) (fun _ => ?_)
  · refine zj_aload_n d_M_next_39 rfl ?_
    refine zj_aload_n d_M_next_40 rfl ?_
    refine zj_getI fl_M_169 (fun _ _ _ _ => rfl) d_M_next_41 (fun v11 => ?_)
    refine zj_putI fl_M_166 (fun _ _ _ _ => rfl) ⟨rfl, rfl⟩ d_M_next_44 (fun u12 => ?_)
    refine zj_aload_n d_M_next_47 rfl ?_
    refine zj_aload_n d_M_next_48 rfl ?_
    refine zj_getI fl_M_169 (fun _ _ _ _ => rfl) d_M_next_49 (fun v13 => ?_)
    refine zj_cVIp (ci := 9) (T := zT9) (N := 53) [.int v13] zm_V_M_byteAt ml_M_180 rfl (fun _ _ h => B_M_byteAt g (d + 1) h) (Nat.le_refl _) ⟨Nat.zero_le _, Nat.zero_le _⟩ rfl rfl (by decide) d_M_next_52 (fun v14 => ?_)
    refine zj_istore_n [some (zr g (some this)), some (.int v14), none] d_M_next_55 (by decide) rfl rfl ?_
    refine zj_iload_n d_M_next_56 rfl ?_
    refine zj_if_ge 66 d_M_next_57 rfl (fun _ => ?_) (fun _ => ?_)
    · refine zj_iload_n d_M_next_66 rfl ?_
      refine zj_cSIp [.int v14] zm_S_M_isLetter ml_M_186 (fun _ h => B_M_isLetter g (d) h) (Nat.le_refl _) ⟨Nat.zero_le _, Nat.zero_le _⟩ rfl rfl (by decide) d_M_next_67 (fun v16 => ?_)
      refine zj_if_eq 147 d_M_next_70 rfl (fun _ => ?_) (fun _ => ?_)
      · refine zj_iload_n d_M_next_147 rfl ?_
        refine zj_cSIp [.int v14] zm_S_M_isDigit ml_M_196 (fun _ h => B_M_isDigit g (d) h) (Nat.le_refl _) ⟨Nat.zero_le _, Nat.zero_le _⟩ rfl rfl (by decide) d_M_next_148 (fun v17 => ?_)
        refine zj_if_eq 252 d_M_next_151 rfl (fun _ => ?_) (fun _ => ?_)
        · refine zj_aload_n d_M_next_252 rfl ?_
          refine zj_iload_n d_M_next_253 rfl ?_
          refine zj_cSIp [.int v14] zm_S_M_isSignByte ml_M_199 (fun _ h => B_M_isSignByte g (d + 1) h) (Nat.le_refl _) ⟨Nat.zero_le _, Nat.zero_le _⟩ rfl rfl (by simp [zr_cat, zcI, zcJ]) d_M_next_254 (fun v18 => ?_)
          refine zj_jn1 (pcj := 265) (fun x19 => [some (zr g (some this)), some (.int v14), none]) (fun x19 => [.int x19, zr g (some this)]) (fun x19 => u12) (fun x19 => ?_) (fun j20 hj20 => ?_)
          · refine zj_putI fl_M_183 (fun _ _ _ _ => rfl) ⟨rfl, rfl⟩ d_M_next_265 (fun u21 => ?_)
            refine zj_aload_n d_M_next_268 rfl ?_
            refine zj_iload_n d_M_next_269 rfl ?_
            refine zj_putI fl_M_193 (fun _ _ _ _ => rfl) ⟨rfl, rfl⟩ d_M_next_270 (fun u22 => ?_)
            refine zj_aload_n d_M_next_273 rfl ?_
            refine zj_dup d_M_next_274 (zr_cat _ _) ?_
            refine zj_getI fl_M_169 (fun _ _ _ _ => rfl) d_M_next_275 (fun v23 => ?_)
            refine zj_iconst 1 d_M_next_278 (by decide) ?_
            refine zj_iadd d_M_next_279 ?_
            refine zj_putI fl_M_169 (fun _ _ _ _ => rfl) ⟨rfl, rfl⟩ d_M_next_280 (fun u24 => ?_)
            exact zj_vret rfl rfl rfl rfl d_M_next_283
          refine zj_if_eq 264 d_M_next_257 rfl (fun _ => ?_) (fun _ => ?_)
          · refine zj_iconst 5 d_M_next_264 (by decide) ?_
            exact hj20 5
          refine zj_iconst 4 d_M_next_260 (by decide) ?_
          refine zj_goto 265 d_M_next_261 rfl ?_
          exact hj20 4
        refine zj_aload_n d_M_next_154 rfl ?_
        refine zj_iconst 0 d_M_next_155 (by decide) ?_
        refine zj_putI fl_M_193 (fun _ _ _ _ => rfl) ⟨rfl, rfl⟩ d_M_next_156 (fun u25 => ?_)
        refine zj_cut [some (zr g (some this)), none, none] ⟨rfl, trivial⟩ ?_
        refine zj_fix1 (fun u27 => [some (zr g (some this)), none, none]) (fun u27 => u27) (fun r26 hr26 u27 => ?_) u25
        refine zj_aload_n d_M_next_159 rfl ?_
        refine zj_aload_n d_M_next_160 rfl ?_
        refine zj_getI fl_M_169 (fun _ _ _ _ => rfl) d_M_next_161 (fun v28 => ?_)
        refine zj_cVIp (ci := 9) (T := zT9) (N := 53) [.int v28] zm_V_M_byteAt ml_M_180 rfl (fun _ _ h => B_M_byteAt g (d + 1) h) (Nat.le_refl _) ⟨Nat.zero_le _, Nat.zero_le _⟩ rfl rfl (by decide) d_M_next_164 (fun v29 => ?_)
        refine zj_cSIp [.int v29] zm_S_M_isDigit ml_M_196 (fun _ h => B_M_isDigit g (d) h) (Nat.le_refl _) ⟨Nat.zero_le _, Nat.zero_le _⟩ rfl rfl (by decide) d_M_next_167 (fun v31 => ?_)
        refine zj_if_eq 229 d_M_next_170 rfl (fun _ => ?_) (fun _ => ?_)
        · refine zj_aload_n d_M_next_229 rfl ?_
          refine zj_aload_n d_M_next_230 rfl ?_
          refine zj_getI fl_M_169 (fun _ _ _ _ => rfl) d_M_next_231 (fun v32 => ?_)
          refine zj_aload_n d_M_next_234 rfl ?_
          refine zj_getI fl_M_166 (fun _ _ _ _ => rfl) d_M_next_235 (fun v33 => ?_)
          refine zj_isub d_M_next_238 ?_
          refine zj_iconst 4 d_M_next_239 (by decide) ?_
          refine zj_icmp_le 247 d_M_next_240 rfl (fun _ => ?_) (fun _ => ?_)
          · refine zj_iconst 1 d_M_next_247 (by decide) ?_
            refine zj_putI fl_M_183 (fun _ _ _ _ => rfl) ⟨rfl, rfl⟩ d_M_next_248 (fun u34 => ?_)
            exact zj_vret rfl rfl rfl rfl d_M_next_251
          refine zj_iconst 5 d_M_next_243 (by decide) ?_
          refine zj_goto 248 d_M_next_244 rfl ?_
          refine zj_putI fl_M_183 (fun _ _ _ _ => rfl) ⟨rfl, rfl⟩ d_M_next_248 (fun u35 => ?_)
          exact zj_vret rfl rfl rfl rfl d_M_next_251
        refine zj_aload_n d_M_next_173 rfl ?_
        refine zj_aload_n d_M_next_174 rfl ?_
        refine zj_getI fl_M_169 (fun _ _ _ _ => rfl) d_M_next_175 (fun v36 => ?_)
        refine zj_aload_n d_M_next_178 rfl ?_
        refine zj_getI fl_M_166 (fun _ _ _ _ => rfl) d_M_next_179 (fun v37 => ?_)
        refine zj_isub d_M_next_182 ?_
        refine zj_iconst 4 d_M_next_183 (by decide) ?_
        refine zj_jn1 (pcj := 213) (fun x38 => [some (zr g (some this)), none, none]) (fun x38 => [.int x38, zr g (some this)]) (fun x38 => u27) (fun x38 => ?_) (fun j39 hj39 => ?_)
        · refine zj_putI fl_M_193 (fun _ _ _ _ => rfl) ⟨rfl, rfl⟩ d_M_next_213 (fun u40 => ?_)
          refine zj_aload_n d_M_next_216 rfl ?_
          refine zj_dup d_M_next_217 (zr_cat _ _) ?_
          refine zj_getI fl_M_169 (fun _ _ _ _ => rfl) d_M_next_218 (fun v41 => ?_)
          refine zj_iconst 1 d_M_next_221 (by decide) ?_
          refine zj_iadd d_M_next_222 ?_
          refine zj_putI fl_M_169 (fun _ _ _ _ => rfl) ⟨rfl, rfl⟩ d_M_next_223 (fun u42 => ?_)
          refine zj_goto 159 d_M_next_226 rfl ?_
          exact hr26 u42
        refine zj_icmp_ge 209 d_M_next_184 rfl (fun _ => ?_) (fun _ => ?_)
        · refine zj_aload_n d_M_next_209 rfl ?_
          refine zj_getI fl_M_193 (fun _ _ _ _ => rfl) d_M_next_210 (fun v43 => ?_)
          exact hj39 v43
        refine zj_bipush 10 d_M_next_187 (by decide) ?_
        refine zj_aload_n d_M_next_189 rfl ?_
        refine zj_getI fl_M_193 (fun _ _ _ _ => rfl) d_M_next_190 (fun v44 => ?_)
        refine zj_imul d_M_next_193 ?_
        refine zj_aload_n d_M_next_194 rfl ?_
        refine zj_aload_n d_M_next_195 rfl ?_
        refine zj_getI fl_M_169 (fun _ _ _ _ => rfl) d_M_next_196 (fun v45 => ?_)
        refine zj_cVIp (ci := 9) (T := zT9) (N := 53) [.int v45] zm_V_M_byteAt ml_M_180 rfl (fun _ _ h => B_M_byteAt g (d + 1) h) (Nat.le_refl _) ⟨Nat.zero_le _, Nat.zero_le _⟩ rfl rfl (by simp [zr_cat, zcI, zcJ]) d_M_next_199 (fun v46 => ?_)
        refine zj_iadd d_M_next_202 ?_
        refine zj_bipush 48 d_M_next_203 (by decide) ?_
        refine zj_isub d_M_next_205 ?_
        refine zj_goto 213 d_M_next_206 rfl ?_
        exact hj39 ((((10 : Int32) * v44) + v46) - 48)
      refine zj_cut [some (zr g (some this)), none, none] ⟨rfl, trivial⟩ ?_
      refine zj_fix1 (fun u49 => [some (zr g (some this)), none, none]) (fun u49 => u49) (fun r48 hr48 u49 => ?_) u12
      refine zj_aload_n d_M_next_73 rfl ?_
      refine zj_aload_n d_M_next_74 rfl ?_
      refine zj_getI fl_M_169 (fun _ _ _ _ => rfl) d_M_next_75 (fun v50 => ?_)
      refine zj_cVIp (ci := 9) (T := zT9) (N := 53) [.int v50] zm_V_M_byteAt ml_M_180 rfl (fun _ _ h => B_M_byteAt g (d + 1) h) (Nat.le_refl _) ⟨Nat.zero_le _, Nat.zero_le _⟩ rfl rfl (by decide) d_M_next_78 (fun v51 => ?_)
      refine zj_cSIp [.int v51] zm_S_M_isLetter ml_M_186 (fun _ h => B_M_isLetter g (d) h) (Nat.le_refl _) ⟨Nat.zero_le _, Nat.zero_le _⟩ rfl rfl (by decide) d_M_next_81 (fun v53 => ?_)
      refine zj_if_eq 100 d_M_next_84 rfl (fun _ => ?_) (fun _ => ?_)
      · refine zj_aload_n d_M_next_100 rfl ?_
        refine zj_cVIp (ci := 9) (T := zT9) (N := 53) [] zm_V_M_wordOf ml_M_189 rfl (fun _ _ h => B_M_wordOf g (d + 1) h) (Nat.le_refl _) ⟨Nat.zero_le _, Nat.zero_le _⟩ rfl rfl (by decide) d_M_next_101 (fun v54 => ?_)
        refine zj_istore_n [some (zr g (some this)), none, some (.int v54)] d_M_next_104 (by decide) rfl rfl ?_
        refine zj_aload_n d_M_next_105 rfl ?_
        refine zj_iload_n d_M_next_106 rfl ?_
        refine zj_jn1 (pcj := 125) (fun x56 => [some (zr g (some this)), none, some (.int v54)]) (fun x56 => [.int x56, zr g (some this)]) (fun x56 => u49) (fun x56 => ?_) (fun j57 hj57 => ?_)
        · refine zj_putI fl_M_183 (fun _ _ _ _ => rfl) ⟨rfl, rfl⟩ d_M_next_125 (fun u58 => ?_)
          refine zj_aload_n d_M_next_128 rfl ?_
          refine zj_iload_n d_M_next_129 rfl ?_
          refine zj_bipush 6 d_M_next_130 (by decide) ?_
          refine zj_icmp_ge 139 d_M_next_132 rfl (fun _ => ?_) (fun _ => ?_)
          · refine zj_iload_n d_M_next_139 rfl ?_
            refine zj_bipush 6 d_M_next_140 (by decide) ?_
            refine zj_isub d_M_next_142 ?_
            refine zj_putI fl_M_193 (fun _ _ _ _ => rfl) ⟨rfl, rfl⟩ d_M_next_143 (fun u59 => ?_)
            exact zj_vret rfl rfl rfl rfl d_M_next_146
          refine zj_iload_n d_M_next_135 rfl ?_
          refine zj_goto 143 d_M_next_136 rfl ?_
          refine zj_putI fl_M_193 (fun _ _ _ _ => rfl) ⟨rfl, rfl⟩ d_M_next_143 (fun u60 => ?_)
          exact zj_vret rfl rfl rfl rfl d_M_next_146
        refine zj_if_ge 114 d_M_next_107 rfl (fun _ => ?_) (fun _ => ?_)
        · refine zj_iload_n d_M_next_114 rfl ?_
          refine zj_bipush 6 d_M_next_115 (by decide) ?_
          refine zj_icmp_ge 124 d_M_next_117 rfl (fun _ => ?_) (fun _ => ?_)
          · refine zj_iconst 3 d_M_next_124 (by decide) ?_
            exact hj57 3
          refine zj_iconst 2 d_M_next_120 (by decide) ?_
          refine zj_goto 125 d_M_next_121 rfl ?_
          exact hj57 2
        refine zj_iconst 5 d_M_next_110 (by decide) ?_
        refine zj_goto 125 d_M_next_111 rfl ?_
        exact hj57 5
      refine zj_aload_n d_M_next_87 rfl ?_
      refine zj_dup d_M_next_88 (zr_cat _ _) ?_
      refine zj_getI fl_M_169 (fun _ _ _ _ => rfl) d_M_next_89 (fun v61 => ?_)
      refine zj_iconst 1 d_M_next_92 (by decide) ?_
      refine zj_iadd d_M_next_93 ?_
      refine zj_putI fl_M_169 (fun _ _ _ _ => rfl) ⟨rfl, rfl⟩ d_M_next_94 (fun u62 => ?_)
      refine zj_goto 73 d_M_next_97 rfl ?_
      exact hr48 u62
    refine zj_aload_n d_M_next_60 rfl ?_
    refine zj_iconst 0 d_M_next_61 (by decide) ?_
    refine zj_putI fl_M_183 (fun _ _ _ _ => rfl) ⟨rfl, rfl⟩ d_M_next_62 (fun u63 => ?_)
    exact zj_vret rfl rfl rfl rfl d_M_next_65
  refine zj_aload_n d_M_next_26 rfl ?_
  refine zj_dup d_M_next_27 (zr_cat _ _) ?_
  refine zj_getI fl_M_169 (fun _ _ _ _ => rfl) d_M_next_28 (fun v64 => ?_)
  refine zj_iconst 1 d_M_next_31 (by decide) ?_
  refine zj_iadd d_M_next_32 ?_
  refine zj_putI fl_M_169 (fun _ _ _ _ => rfl) ⟨rfl, rfl⟩ d_M_next_33 (fun u65 => ?_)
  refine zj_goto 0 d_M_next_36 rfl ?_
  exact hr1 u65
def F_M_payOf (u0 : zS) (this : Nat) (a1 : Int32) : Option (Int32 × zS) := (zgR u0 9 (some this) 6).bind fun v1 => (zaI u0 .int v1 a1).bind fun v2 => (zob u0 9 (some this)).bind fun q5 => (F_M_says u0 q5 2 a1 v2).bind <| zk fun v3 u4 => (F_M_held u4 v3 0 999).bind fun v6 => some (v6, u4)
set_option maxHeartbeats 4000000 in
set_option maxRecDepth 100000 in
theorem B_M_payOf (g : zG) (d : Nat) {u0 : zS} {this : Nat} {a1 : Int32} {o : Int32 × zS} (h : F_M_payOf u0 this a1 = some o) : zMt g zy_M_payOf (d + 3) 0 0 [zr g (some this), .int a1] u0 (some (.int o.1)) o.2 := by
  refine zMt_of2 (ls := [some (zr g (some this)), some (.int a1)]) 0 (by decide +kernel) (by simp [lg_sl, zr_cat, zcI, zcJ]) (by simp [zal, zr_cat, zcI, zcJ, List.replicate]) ?_
  revert h
  show zJ g zy_M_payOf (d + 3) 0 0 zwI o 0 0 0 [some (zr g (some this)), some (.int a1)] [] u0 (F_M_payOf u0 this a1)
  unfold F_M_payOf
  refine zj_aload_n d_M_payOf_0 rfl ?_
  refine zj_iconst 2 d_M_payOf_1 (by decide) ?_
  refine zj_iload_n d_M_payOf_2 rfl ?_
  refine zj_aload_n d_M_payOf_3 rfl ?_
  refine zj_getR fl_M_24 (fun _ _ _ _ => rfl) d_M_payOf_4 (fun v1 => ?_)
  refine zj_iload_n d_M_payOf_7 rfl ?_
  refine zj_iaload d_M_payOf_8 (fun v2 => ?_)
  refine zj_cVI (ci := 9) (T := zT9) (N := 53) [.int 2, .int a1, .int v2] zm_V_M_says ml_M_260 rfl (fun _ _ h => B_M_says g (d) h) (Nat.le_refl _) ⟨Nat.zero_le _, Nat.zero_le _⟩ rfl rfl (by decide) d_M_payOf_9 (fun v3 u4 => ?_)
  refine zj_iconst 0 d_M_payOf_12 (by decide) ?_
  refine zj_sipush 999 d_M_payOf_13 (by decide) ?_
  refine zj_cSIp [.int v3, .int 0, .int 999] zm_S_M_held ml_M_263 (fun _ h => B_M_held g (d + 1) h) (Nat.le_refl _) ⟨Nat.zero_le _, Nat.zero_le _⟩ rfl rfl (by decide) d_M_payOf_16 (fun v6 => ?_)
  exact zj_iret rfl rfl rfl rfl d_M_payOf_19
def F_M_sheet (u0 : zS) (this : Nat) (a1 : Int32) (a2 : Int32) (a3 : Int32) : Option (Int32 × zS) := (F_M_isSheet u0 a1).bind fun v1 => if v1 = 0 then (some ((-2), u0)) else ((F_M_in u0 ((a2 : Int32).toInt64) (-1) 2).bind fun v2 => if v2 = 0 then (some ((-2), u0)) else (if a2 < 0 then (if a2 < 0 then ((zgR u0 9 (some this) 49).bind fun v3 => (zsI u0 v3 a1 a2).bind fun u4 => (zgR u4 9 (some this) 50).bind fun v5 => zjn1 (fun (j7 : Int32 → Option (Int32 × zS)) => if 0 ≤ a2 then (j7 a3) else (j7 0)) (fun (x6 : Int32) => (zsI u4 v5 a1 x6).bind fun u8 => zfix2 (fun (r9 : zS → Int32 → Option (Int32 × zS)) (u10 : zS) (x11 : Int32) => if (((40 : Int32) * a1) + 40) ≤ x11 then (some (1, u10)) else ((zgR u10 9 (some this) 51).bind fun v12 => (zsI u10 v12 x11 0).bind fun u13 => r9 u13 (x11 + 1))) zFU u8 ((40 : Int32) * a1))) else (if 0 ≤ a3 then ((zgR u0 9 (some this) 49).bind fun v14 => (zsI u0 v14 a1 a2).bind fun u15 => (zgR u15 9 (some this) 50).bind fun v16 => zjn1 (fun (j18 : Int32 → Option (Int32 × zS)) => if 0 ≤ a2 then (j18 a3) else (j18 0)) (fun (x17 : Int32) => (zsI u15 v16 a1 x17).bind fun u19 => zfix2 (fun (r20 : zS → Int32 → Option (Int32 × zS)) (u21 : zS) (x22 : Int32) => if (((40 : Int32) * a1) + 40) ≤ x22 then (some (1, u21)) else ((zgR u21 9 (some this) 51).bind fun v23 => (zsI u21 v23 x22 0).bind fun u24 => r20 u24 (x22 + 1))) zFU u19 ((40 : Int32) * a1))) else (some ((-14), u0)))) else (if a3 ≤ 40 then (if a2 < 0 then ((zgR u0 9 (some this) 49).bind fun v25 => (zsI u0 v25 a1 a2).bind fun u26 => (zgR u26 9 (some this) 50).bind fun v27 => zjn1 (fun (j29 : Int32 → Option (Int32 × zS)) => if 0 ≤ a2 then (j29 a3) else (j29 0)) (fun (x28 : Int32) => (zsI u26 v27 a1 x28).bind fun u30 => zfix2 (fun (r31 : zS → Int32 → Option (Int32 × zS)) (u32 : zS) (x33 : Int32) => if (((40 : Int32) * a1) + 40) ≤ x33 then (some (1, u32)) else ((zgR u32 9 (some this) 51).bind fun v34 => (zsI u32 v34 x33 0).bind fun u35 => r31 u35 (x33 + 1))) zFU u30 ((40 : Int32) * a1))) else (if 0 ≤ a3 then ((zgR u0 9 (some this) 49).bind fun v36 => (zsI u0 v36 a1 a2).bind fun u37 => (zgR u37 9 (some this) 50).bind fun v38 => zjn1 (fun (j40 : Int32 → Option (Int32 × zS)) => if 0 ≤ a2 then (j40 a3) else (j40 0)) (fun (x39 : Int32) => (zsI u37 v38 a1 x39).bind fun u41 => zfix2 (fun (r42 : zS → Int32 → Option (Int32 × zS)) (u43 : zS) (x44 : Int32) => if (((40 : Int32) * a1) + 40) ≤ x44 then (some (1, u43)) else ((zgR u43 9 (some this) 51).bind fun v45 => (zsI u43 v45 x44 0).bind fun u46 => r42 u46 (x44 + 1))) zFU u41 ((40 : Int32) * a1))) else (some ((-14), u0)))) else (some ((-2), u0)))))
set_option maxHeartbeats 4000000 in
set_option maxRecDepth 100000 in
theorem B_M_sheet (g : zG) (d : Nat) {u0 : zS} {this : Nat} {a1 : Int32} {a2 : Int32} {a3 : Int32} {o : Int32 × zS} (h : F_M_sheet u0 this a1 a2 a3 = some o) : zMt g zy_M_sheet (d + 3) 0 0 [zr g (some this), .int a1, .int a2, .int a3] u0 (some (.int o.1)) o.2 := by
  refine zMt_of2 (ls := [some (zr g (some this)), some (.int a1), some (.int a2), some (.int a3), none]) 1 (by decide +kernel) (by simp [lg_sl, zr_cat, zcI, zcJ]) (by simp [zal, zr_cat, zcI, zcJ, List.replicate]) ?_
  revert h
  show zJ g zy_M_sheet (d + 3) 0 0 zwI o 0 0 0 [some (zr g (some this)), some (.int a1), some (.int a2), some (.int a3), none] [] u0 (F_M_sheet u0 this a1 a2 a3)
  unfold F_M_sheet
  refine zj_iload_n d_M_sheet_0 rfl ?_
  refine zj_cSIp [.int a1] zm_S_M_isSheet ml_M_339 (fun _ h => B_M_isSheet g (d) h) (Nat.le_refl _) ⟨Nat.zero_le _, Nat.zero_le _⟩ rfl rfl (by decide) d_M_sheet_1 (fun v1 => ?_)
  refine zj_if_eq 31 d_M_sheet_4 rfl (fun _ => ?_) (fun _ => ?_)
  · refine zj_bipush (-2) d_M_sheet_31 (by decide) ?_
    exact zj_iret rfl rfl rfl rfl d_M_sheet_33
  refine zj_iload_n d_M_sheet_7 rfl ?_
  refine zj_i2l d_M_sheet_8 ?_
  refine zj_ldc2 cl_M_356 d_M_sheet_9 ?_
  refine zj_ldc2 cl_M_323 d_M_sheet_12 ?_
  refine zj_cSIp [.long ((a2 : Int32).toInt64), .long (-1), .long 2] zm_S_M_in ml_M_109 (fun _ h => B_M_in g (d + 1) h) (Nat.le_refl _) ⟨Nat.zero_le _, Nat.zero_le _⟩ rfl rfl (by decide) d_M_sheet_15 (fun v2 => ?_)
  refine zj_if_eq 31 d_M_sheet_18 rfl (fun _ => ?_) (fun _ => ?_)
  · refine zj_bipush (-2) d_M_sheet_31 (by decide) ?_
    exact zj_iret rfl rfl rfl rfl d_M_sheet_33
  refine zj_iload_n d_M_sheet_21 rfl ?_
  refine zj_if_lt 34 d_M_sheet_22 rfl (fun _ => ?_) (fun _ => ?_)
  · refine zj_iload_n d_M_sheet_34 rfl ?_
    refine zj_if_lt 45 d_M_sheet_35 rfl (fun _ => ?_) (fun _ => ?_)
    · refine zj_aload_n d_M_sheet_45 rfl ?_
      refine zj_getR fl_M_91 (fun _ _ _ _ => rfl) d_M_sheet_46 (fun v3 => ?_)
      refine zj_iload_n d_M_sheet_49 rfl ?_
      refine zj_iload_n d_M_sheet_50 rfl ?_
      refine zj_iastore d_M_sheet_51 (fun u4 => ?_)
      refine zj_aload_n d_M_sheet_52 rfl ?_
      refine zj_getR fl_M_94 (fun _ _ _ _ => rfl) d_M_sheet_53 (fun v5 => ?_)
      refine zj_iload_n d_M_sheet_56 rfl ?_
      refine zj_iload_n d_M_sheet_57 rfl ?_
      refine zj_jn1 (pcj := 66) (fun x6 => [some (zr g (some this)), some (.int a1), none, none, none]) (fun x6 => [.int x6, .int a1, zr g v5]) (fun x6 => u4) (fun x6 => ?_) (fun j7 hj7 => ?_)
      · refine zj_iastore d_M_sheet_66 (fun u8 => ?_)
        refine zj_bipush 40 d_M_sheet_67 (by decide) ?_
        refine zj_iload_n d_M_sheet_69 rfl ?_
        refine zj_imul d_M_sheet_70 ?_
        refine zj_istore [some (zr g (some this)), some (.int a1), none, none, some (.int ((40 : Int32) * a1))] d_M_sheet_71 (by decide) rfl rfl ?_
        refine zj_fix2 (fun u10 x11 => [some (zr g (some this)), some (.int a1), none, none, some (.int x11)]) (fun u10 x11 => u10) (fun r9 hr9 u10 x11 => ?_) u8 ((40 : Int32) * a1)
        refine zj_iload d_M_sheet_73 rfl ?_
        refine zj_bipush 40 d_M_sheet_75 (by decide) ?_
        refine zj_iload_n d_M_sheet_77 rfl ?_
        refine zj_imul d_M_sheet_78 ?_
        refine zj_bipush 40 d_M_sheet_79 (by decide) ?_
        refine zj_iadd d_M_sheet_81 ?_
        refine zj_icmp_ge 99 d_M_sheet_82 rfl (fun _ => ?_) (fun _ => ?_)
        · refine zj_iconst 1 d_M_sheet_99 (by decide) ?_
          exact zj_iret rfl rfl rfl rfl d_M_sheet_100
        refine zj_aload_n d_M_sheet_85 rfl ?_
        refine zj_getR fl_M_97 (fun _ _ _ _ => rfl) d_M_sheet_86 (fun v12 => ?_)
        refine zj_iload d_M_sheet_89 rfl ?_
        refine zj_iconst 0 d_M_sheet_91 (by decide) ?_
        refine zj_iastore d_M_sheet_92 (fun u13 => ?_)
        refine zj_iinc (v := (x11 + 1)) [some (zr g (some this)), some (.int a1), none, none, some (.int (x11 + 1))] d_M_sheet_93 rfl rfl (by decide) rfl rfl ?_
        refine zj_goto 73 d_M_sheet_96 rfl ?_
        exact hr9 u13 (x11 + 1)
      refine zj_if_ge 65 d_M_sheet_58 rfl (fun _ => ?_) (fun _ => ?_)
      · refine zj_iload_n d_M_sheet_65 rfl ?_
        refine zj_cut [some (zr g (some this)), some (.int a1), none, none, none] ⟨rfl, ⟨rfl, trivial⟩⟩ ?_
        exact hj7 a3
      refine zj_iconst 0 d_M_sheet_61 (by decide) ?_
      refine zj_goto 66 d_M_sheet_62 rfl ?_
      refine zj_cut [some (zr g (some this)), some (.int a1), none, none, none] ⟨rfl, ⟨rfl, trivial⟩⟩ ?_
      exact hj7 0
    refine zj_iload_n d_M_sheet_38 rfl ?_
    refine zj_if_ge 45 d_M_sheet_39 rfl (fun _ => ?_) (fun _ => ?_)
    · refine zj_aload_n d_M_sheet_45 rfl ?_
      refine zj_getR fl_M_91 (fun _ _ _ _ => rfl) d_M_sheet_46 (fun v14 => ?_)
      refine zj_iload_n d_M_sheet_49 rfl ?_
      refine zj_iload_n d_M_sheet_50 rfl ?_
      refine zj_iastore d_M_sheet_51 (fun u15 => ?_)
      refine zj_aload_n d_M_sheet_52 rfl ?_
      refine zj_getR fl_M_94 (fun _ _ _ _ => rfl) d_M_sheet_53 (fun v16 => ?_)
      refine zj_iload_n d_M_sheet_56 rfl ?_
      refine zj_iload_n d_M_sheet_57 rfl ?_
      refine zj_jn1 (pcj := 66) (fun x17 => [some (zr g (some this)), some (.int a1), none, none, none]) (fun x17 => [.int x17, .int a1, zr g v16]) (fun x17 => u15) (fun x17 => ?_) (fun j18 hj18 => ?_)
      · refine zj_iastore d_M_sheet_66 (fun u19 => ?_)
        refine zj_bipush 40 d_M_sheet_67 (by decide) ?_
        refine zj_iload_n d_M_sheet_69 rfl ?_
        refine zj_imul d_M_sheet_70 ?_
        refine zj_istore [some (zr g (some this)), some (.int a1), none, none, some (.int ((40 : Int32) * a1))] d_M_sheet_71 (by decide) rfl rfl ?_
        refine zj_fix2 (fun u21 x22 => [some (zr g (some this)), some (.int a1), none, none, some (.int x22)]) (fun u21 x22 => u21) (fun r20 hr20 u21 x22 => ?_) u19 ((40 : Int32) * a1)
        refine zj_iload d_M_sheet_73 rfl ?_
        refine zj_bipush 40 d_M_sheet_75 (by decide) ?_
        refine zj_iload_n d_M_sheet_77 rfl ?_
        refine zj_imul d_M_sheet_78 ?_
        refine zj_bipush 40 d_M_sheet_79 (by decide) ?_
        refine zj_iadd d_M_sheet_81 ?_
        refine zj_icmp_ge 99 d_M_sheet_82 rfl (fun _ => ?_) (fun _ => ?_)
        · refine zj_iconst 1 d_M_sheet_99 (by decide) ?_
          exact zj_iret rfl rfl rfl rfl d_M_sheet_100
        refine zj_aload_n d_M_sheet_85 rfl ?_
        refine zj_getR fl_M_97 (fun _ _ _ _ => rfl) d_M_sheet_86 (fun v23 => ?_)
        refine zj_iload d_M_sheet_89 rfl ?_
        refine zj_iconst 0 d_M_sheet_91 (by decide) ?_
        refine zj_iastore d_M_sheet_92 (fun u24 => ?_)
        refine zj_iinc (v := (x22 + 1)) [some (zr g (some this)), some (.int a1), none, none, some (.int (x22 + 1))] d_M_sheet_93 rfl rfl (by decide) rfl rfl ?_
        refine zj_goto 73 d_M_sheet_96 rfl ?_
        exact hr20 u24 (x22 + 1)
      refine zj_if_ge 65 d_M_sheet_58 rfl (fun _ => ?_) (fun _ => ?_)
      · refine zj_iload_n d_M_sheet_65 rfl ?_
        refine zj_cut [some (zr g (some this)), some (.int a1), none, none, none] ⟨rfl, ⟨rfl, trivial⟩⟩ ?_
        exact hj18 a3
      refine zj_iconst 0 d_M_sheet_61 (by decide) ?_
      refine zj_goto 66 d_M_sheet_62 rfl ?_
      refine zj_cut [some (zr g (some this)), some (.int a1), none, none, none] ⟨rfl, ⟨rfl, trivial⟩⟩ ?_
      exact hj18 0
    refine zj_bipush (-14) d_M_sheet_42 (by decide) ?_
    exact zj_iret rfl rfl rfl rfl d_M_sheet_44
  refine zj_iload_n d_M_sheet_25 rfl ?_
  refine zj_bipush 40 d_M_sheet_26 (by decide) ?_
  refine zj_icmp_le 34 d_M_sheet_28 rfl (fun _ => ?_) (fun _ => ?_)
  · refine zj_iload_n d_M_sheet_34 rfl ?_
    refine zj_if_lt 45 d_M_sheet_35 rfl (fun _ => ?_) (fun _ => ?_)
    · refine zj_aload_n d_M_sheet_45 rfl ?_
      refine zj_getR fl_M_91 (fun _ _ _ _ => rfl) d_M_sheet_46 (fun v25 => ?_)
      refine zj_iload_n d_M_sheet_49 rfl ?_
      refine zj_iload_n d_M_sheet_50 rfl ?_
      refine zj_iastore d_M_sheet_51 (fun u26 => ?_)
      refine zj_aload_n d_M_sheet_52 rfl ?_
      refine zj_getR fl_M_94 (fun _ _ _ _ => rfl) d_M_sheet_53 (fun v27 => ?_)
      refine zj_iload_n d_M_sheet_56 rfl ?_
      refine zj_iload_n d_M_sheet_57 rfl ?_
      refine zj_jn1 (pcj := 66) (fun x28 => [some (zr g (some this)), some (.int a1), none, none, none]) (fun x28 => [.int x28, .int a1, zr g v27]) (fun x28 => u26) (fun x28 => ?_) (fun j29 hj29 => ?_)
      · refine zj_iastore d_M_sheet_66 (fun u30 => ?_)
        refine zj_bipush 40 d_M_sheet_67 (by decide) ?_
        refine zj_iload_n d_M_sheet_69 rfl ?_
        refine zj_imul d_M_sheet_70 ?_
        refine zj_istore [some (zr g (some this)), some (.int a1), none, none, some (.int ((40 : Int32) * a1))] d_M_sheet_71 (by decide) rfl rfl ?_
        refine zj_fix2 (fun u32 x33 => [some (zr g (some this)), some (.int a1), none, none, some (.int x33)]) (fun u32 x33 => u32) (fun r31 hr31 u32 x33 => ?_) u30 ((40 : Int32) * a1)
        refine zj_iload d_M_sheet_73 rfl ?_
        refine zj_bipush 40 d_M_sheet_75 (by decide) ?_
        refine zj_iload_n d_M_sheet_77 rfl ?_
        refine zj_imul d_M_sheet_78 ?_
        refine zj_bipush 40 d_M_sheet_79 (by decide) ?_
        refine zj_iadd d_M_sheet_81 ?_
        refine zj_icmp_ge 99 d_M_sheet_82 rfl (fun _ => ?_) (fun _ => ?_)
        · refine zj_iconst 1 d_M_sheet_99 (by decide) ?_
          exact zj_iret rfl rfl rfl rfl d_M_sheet_100
        refine zj_aload_n d_M_sheet_85 rfl ?_
        refine zj_getR fl_M_97 (fun _ _ _ _ => rfl) d_M_sheet_86 (fun v34 => ?_)
        refine zj_iload d_M_sheet_89 rfl ?_
        refine zj_iconst 0 d_M_sheet_91 (by decide) ?_
        refine zj_iastore d_M_sheet_92 (fun u35 => ?_)
        refine zj_iinc (v := (x33 + 1)) [some (zr g (some this)), some (.int a1), none, none, some (.int (x33 + 1))] d_M_sheet_93 rfl rfl (by decide) rfl rfl ?_
        refine zj_goto 73 d_M_sheet_96 rfl ?_
        exact hr31 u35 (x33 + 1)
      refine zj_if_ge 65 d_M_sheet_58 rfl (fun _ => ?_) (fun _ => ?_)
      · refine zj_iload_n d_M_sheet_65 rfl ?_
        refine zj_cut [some (zr g (some this)), some (.int a1), none, none, none] ⟨rfl, ⟨rfl, trivial⟩⟩ ?_
        exact hj29 a3
      refine zj_iconst 0 d_M_sheet_61 (by decide) ?_
      refine zj_goto 66 d_M_sheet_62 rfl ?_
      refine zj_cut [some (zr g (some this)), some (.int a1), none, none, none] ⟨rfl, ⟨rfl, trivial⟩⟩ ?_
      exact hj29 0
    refine zj_iload_n d_M_sheet_38 rfl ?_
    refine zj_if_ge 45 d_M_sheet_39 rfl (fun _ => ?_) (fun _ => ?_)
    · refine zj_aload_n d_M_sheet_45 rfl ?_
      refine zj_getR fl_M_91 (fun _ _ _ _ => rfl) d_M_sheet_46 (fun v36 => ?_)
      refine zj_iload_n d_M_sheet_49 rfl ?_
      refine zj_iload_n d_M_sheet_50 rfl ?_
      refine zj_iastore d_M_sheet_51 (fun u37 => ?_)
      refine zj_aload_n d_M_sheet_52 rfl ?_
      refine zj_getR fl_M_94 (fun _ _ _ _ => rfl) d_M_sheet_53 (fun v38 => ?_)
      refine zj_iload_n d_M_sheet_56 rfl ?_
      refine zj_iload_n d_M_sheet_57 rfl ?_
      refine zj_jn1 (pcj := 66) (fun x39 => [some (zr g (some this)), some (.int a1), none, none, none]) (fun x39 => [.int x39, .int a1, zr g v38]) (fun x39 => u37) (fun x39 => ?_) (fun j40 hj40 => ?_)
      · refine zj_iastore d_M_sheet_66 (fun u41 => ?_)
        refine zj_bipush 40 d_M_sheet_67 (by decide) ?_
        refine zj_iload_n d_M_sheet_69 rfl ?_
        refine zj_imul d_M_sheet_70 ?_
        refine zj_istore [some (zr g (some this)), some (.int a1), none, none, some (.int ((40 : Int32) * a1))] d_M_sheet_71 (by decide) rfl rfl ?_
        refine zj_fix2 (fun u43 x44 => [some (zr g (some this)), some (.int a1), none, none, some (.int x44)]) (fun u43 x44 => u43) (fun r42 hr42 u43 x44 => ?_) u41 ((40 : Int32) * a1)
        refine zj_iload d_M_sheet_73 rfl ?_
        refine zj_bipush 40 d_M_sheet_75 (by decide) ?_
        refine zj_iload_n d_M_sheet_77 rfl ?_
        refine zj_imul d_M_sheet_78 ?_
        refine zj_bipush 40 d_M_sheet_79 (by decide) ?_
        refine zj_iadd d_M_sheet_81 ?_
        refine zj_icmp_ge 99 d_M_sheet_82 rfl (fun _ => ?_) (fun _ => ?_)
        · refine zj_iconst 1 d_M_sheet_99 (by decide) ?_
          exact zj_iret rfl rfl rfl rfl d_M_sheet_100
        refine zj_aload_n d_M_sheet_85 rfl ?_
        refine zj_getR fl_M_97 (fun _ _ _ _ => rfl) d_M_sheet_86 (fun v45 => ?_)
        refine zj_iload d_M_sheet_89 rfl ?_
        refine zj_iconst 0 d_M_sheet_91 (by decide) ?_
        refine zj_iastore d_M_sheet_92 (fun u46 => ?_)
        refine zj_iinc (v := (x44 + 1)) [some (zr g (some this)), some (.int a1), none, none, some (.int (x44 + 1))] d_M_sheet_93 rfl rfl (by decide) rfl rfl ?_
        refine zj_goto 73 d_M_sheet_96 rfl ?_
        exact hr42 u46 (x44 + 1)
      refine zj_if_ge 65 d_M_sheet_58 rfl (fun _ => ?_) (fun _ => ?_)
      · refine zj_iload_n d_M_sheet_65 rfl ?_
        refine zj_cut [some (zr g (some this)), some (.int a1), none, none, none] ⟨rfl, ⟨rfl, trivial⟩⟩ ?_
        exact hj40 a3
      refine zj_iconst 0 d_M_sheet_61 (by decide) ?_
      refine zj_goto 66 d_M_sheet_62 rfl ?_
      refine zj_cut [some (zr g (some this)), some (.int a1), none, none, none] ⟨rfl, ⟨rfl, trivial⟩⟩ ?_
      exact hj40 0
    refine zj_bipush (-14) d_M_sheet_42 (by decide) ?_
    exact zj_iret rfl rfl rfl rfl d_M_sheet_44
  refine zj_bipush (-2) d_M_sheet_31 (by decide) ?_
  exact zj_iret rfl rfl rfl rfl d_M_sheet_33
def F_M_taken (u0 : zS) (this : Nat) (a1 : Int32) (a2 : Int32) : Option (Int32) := (F_M_in u0 ((a2 : Int32).toInt64) 0 5).bind fun v1 => if v1 = 0 then (some (-2)) else ((zob u0 9 (some this)).bind fun q3 => (F_M_isPerson u0 q3 a1).bind fun v2 => if v2 = 0 then (some (-11)) else ((zgR u0 9 (some this) 5).bind fun v4 => (zaI u0 .int v4 a1).bind fun v5 => zfix1 (fun (r6 : Int32 → Option (Int32)) (x7 : Int32) => if x7 = a2 then (if x7 = a2 then ((zgR u0 9 (some this) 7).bind fun v8 => (zaI u0 .int v8 a1).bind fun v9 => some v9) else (some (-13))) else (if x7 ≤ 0 then (if x7 = a2 then ((zgR u0 9 (some this) 7).bind fun v10 => (zaI u0 .int v10 a1).bind fun v11 => some v11) else (some (-13))) else ((F_M_over u0 x7).bind fun v12 => r6 v12))) zFU v5))
set_option maxHeartbeats 4000000 in
set_option maxRecDepth 100000 in
theorem B_M_taken (g : zG) (d : Nat) {u0 : zS} {this : Nat} {a1 : Int32} {a2 : Int32} {o : Int32} (h : F_M_taken u0 this a1 a2 = some o) : zMt g zy_M_taken (d + 3) 0 0 [zr g (some this), .int a1, .int a2] u0 (some (.int o)) u0 := by
  refine zMt_of2 (ls := [some (zr g (some this)), some (.int a1), some (.int a2), none]) 1 (by decide +kernel) (by simp [lg_sl, zr_cat, zcI, zcJ]) (by simp [zal, zr_cat, zcI, zcJ, List.replicate]) ?_
  revert h
  show zJ g zy_M_taken (d + 3) 0 0 (zwIp u0) o 0 0 0 [some (zr g (some this)), some (.int a1), some (.int a2), none] [] u0 (F_M_taken u0 this a1 a2)
  unfold F_M_taken
  refine zj_iload_n d_M_taken_0 rfl ?_
  refine zj_i2l d_M_taken_1 ?_
  refine zj_lconst 0 d_M_taken_2 (by decide) ?_
  refine zj_ldc2 cl_M_118 d_M_taken_3 ?_
  refine zj_cSIp [.long ((a2 : Int32).toInt64), .long 0, .long 5] zm_S_M_in ml_M_109 (fun _ h => B_M_in g (d + 1) h) (Nat.le_refl _) ⟨Nat.zero_le _, Nat.zero_le _⟩ rfl rfl (by decide) d_M_taken_6 (fun v1 => ?_)
  refine zj_if_ne 15 d_M_taken_9 rfl (fun _ => ?_) (fun _ => ?_)
  · refine zj_aload_n d_M_taken_15 rfl ?_
    refine zj_iload_n d_M_taken_16 rfl ?_
    refine zj_cVIp (ci := 9) (T := zT9) (N := 53) [.int a1] zm_V_M_isPerson ml_M_133 rfl (fun _ _ h => B_M_isPerson g (d) h) (Nat.le_refl _) ⟨Nat.zero_le _, Nat.zero_le _⟩ rfl rfl (by decide) d_M_taken_17 (fun v2 => ?_)
    refine zj_if_ne 26 d_M_taken_20 rfl (fun _ => ?_) (fun _ => ?_)
    · refine zj_aload_n d_M_taken_26 rfl ?_
      refine zj_getR fl_M_21 (fun _ _ _ _ => rfl) d_M_taken_27 (fun v4 => ?_)
      refine zj_iload_n d_M_taken_30 rfl ?_
      refine zj_iaload d_M_taken_31 (fun v5 => ?_)
      refine zj_istore_n [some (zr g (some this)), some (.int a1), some (.int a2), some (.int v5)] d_M_taken_32 (by decide) rfl rfl ?_
      refine zj_fix1 (fun x7 => [some (zr g (some this)), some (.int a1), some (.int a2), some (.int x7)]) (fun x7 => u0) (fun r6 hr6 x7 => ?_) v5
      refine zj_iload_n d_M_taken_33 rfl ?_
      refine zj_iload_n d_M_taken_34 rfl ?_
      refine zj_icmp_eq 50 d_M_taken_35 rfl (fun _ => ?_) (fun _ => ?_)
      · refine zj_iload_n d_M_taken_50 rfl ?_
        refine zj_iload_n d_M_taken_51 rfl ?_
        refine zj_icmp_ne 64 d_M_taken_52 rfl (fun _ => ?_) (fun _ => ?_)
        · refine zj_bipush (-13) d_M_taken_64 (by decide) ?_
          exact zj_iret rfl rfl rfl rfl d_M_taken_66
        refine zj_aload_n d_M_taken_55 rfl ?_
        refine zj_getR fl_M_27 (fun _ _ _ _ => rfl) d_M_taken_56 (fun v8 => ?_)
        refine zj_iload_n d_M_taken_59 rfl ?_
        refine zj_iaload d_M_taken_60 (fun v9 => ?_)
        refine zj_goto 66 d_M_taken_61 rfl ?_
        exact zj_iret rfl rfl rfl rfl d_M_taken_66
      refine zj_iload_n d_M_taken_38 rfl ?_
      refine zj_if_le 50 d_M_taken_39 rfl (fun _ => ?_) (fun _ => ?_)
      · refine zj_iload_n d_M_taken_50 rfl ?_
        refine zj_iload_n d_M_taken_51 rfl ?_
        refine zj_icmp_ne 64 d_M_taken_52 rfl (fun _ => ?_) (fun _ => ?_)
        · refine zj_bipush (-13) d_M_taken_64 (by decide) ?_
          exact zj_iret rfl rfl rfl rfl d_M_taken_66
        refine zj_aload_n d_M_taken_55 rfl ?_
        refine zj_getR fl_M_27 (fun _ _ _ _ => rfl) d_M_taken_56 (fun v10 => ?_)
        refine zj_iload_n d_M_taken_59 rfl ?_
        refine zj_iaload d_M_taken_60 (fun v11 => ?_)
        refine zj_goto 66 d_M_taken_61 rfl ?_
        exact zj_iret rfl rfl rfl rfl d_M_taken_66
      refine zj_iload_n d_M_taken_42 rfl ?_
      refine zj_cSIp [.int x7] zm_S_M_over ml_M_361 (fun _ h => B_M_over g (d + 1) h) (Nat.le_refl _) ⟨Nat.zero_le _, Nat.zero_le _⟩ rfl rfl (by decide) d_M_taken_43 (fun v12 => ?_)
      refine zj_istore_n [some (zr g (some this)), some (.int a1), some (.int a2), some (.int v12)] d_M_taken_46 (by decide) rfl rfl ?_
      refine zj_goto 33 d_M_taken_47 rfl ?_
      exact hr6 v12
    refine zj_bipush (-11) d_M_taken_23 (by decide) ?_
    exact zj_iret rfl rfl rfl rfl d_M_taken_25
  refine zj_bipush (-2) d_M_taken_12 (by decide) ?_
  exact zj_iret rfl rfl rfl rfl d_M_taken_14
def F_M_teach (u0 : zS) (this : Nat) (a1 : Int32) (a2 : Int32) : Option (Int32 × zS) := (zob u0 9 (some this)).bind fun q2 => (F_M_isPerson u0 q2 a1).bind fun v1 => if v1 = 0 then (some ((-2), u0)) else ((zob u0 9 (some this)).bind fun q4 => (F_M_isPost u0 q4 a2).bind fun v3 => if v3 = 0 then (some ((-2), u0)) else ((zgR u0 9 (some this) 13).bind fun v5 => (zaI u0 .boolean v5 (((6 : Int32) * a1) + a2)).bind fun v6 => if v6 = 0 then ((zgR u0 9 (some this) 6).bind fun v7 => (zaI u0 .int v7 a1).bind fun v8 => if v8 = a2 then (some ((-3), u0)) else ((zgR u0 9 (some this) 12).bind fun v9 => (zsZ u0 v9 (((6 : Int32) * a1) + a2) 1).bind fun u10 => (zgR u10 9 (some this) 11).bind fun v11 => (zgI u10 9 (some this) 10).bind fun v12 => (zsI u10 v11 (((6 : Int32) * a1) + a2) v12).bind fun u13 => (zob u13 9 (some this)).bind fun q15 => (F_M_taughtMany u13 q15 a1).bind fun v14 => some (v14, u13))) else (some ((-3), u0))))
set_option maxHeartbeats 4000000 in
set_option maxRecDepth 100000 in
theorem B_M_teach (g : zG) (d : Nat) {u0 : zS} {this : Nat} {a1 : Int32} {a2 : Int32} {o : Int32 × zS} (h : F_M_teach u0 this a1 a2 = some o) : zMt g zy_M_teach (d + 3) 0 0 [zr g (some this), .int a1, .int a2] u0 (some (.int o.1)) o.2 := by
  refine zMt_of2 (ls := [some (zr g (some this)), some (.int a1), some (.int a2)]) 0 (by decide +kernel) (by simp [lg_sl, zr_cat, zcI, zcJ]) (by simp [zal, zr_cat, zcI, zcJ, List.replicate]) ?_
  revert h
  show zJ g zy_M_teach (d + 3) 0 0 zwI o 0 0 0 [some (zr g (some this)), some (.int a1), some (.int a2)] [] u0 (F_M_teach u0 this a1 a2)
  unfold F_M_teach
  refine zj_aload_n d_M_teach_0 rfl ?_
  refine zj_iload_n d_M_teach_1 rfl ?_
  refine zj_cVIp (ci := 9) (T := zT9) (N := 53) [.int a1] zm_V_M_isPerson ml_M_133 rfl (fun _ _ h => B_M_isPerson g (d) h) (Nat.le_refl _) ⟨Nat.zero_le _, Nat.zero_le _⟩ rfl rfl (by decide) d_M_teach_2 (fun v1 => ?_)
  refine zj_if_eq 16 d_M_teach_5 rfl (fun _ => ?_) (fun _ => ?_)
  · refine zj_bipush (-2) d_M_teach_16 (by decide) ?_
    exact zj_iret rfl rfl rfl rfl d_M_teach_18
  refine zj_aload_n d_M_teach_8 rfl ?_
  refine zj_iload_n d_M_teach_9 rfl ?_
  refine zj_cVIp (ci := 9) (T := zT9) (N := 53) [.int a2] zm_V_M_isPost ml_M_120 rfl (fun _ _ h => B_M_isPost g (d) h) (Nat.le_refl _) ⟨Nat.zero_le _, Nat.zero_le _⟩ rfl rfl (by decide) d_M_teach_10 (fun v3 => ?_)
  refine zj_if_ne 19 d_M_teach_13 rfl (fun _ => ?_) (fun _ => ?_)
  · refine zj_aload_n d_M_teach_19 rfl ?_
    refine zj_getR fl_M_42 (fun _ _ _ _ => rfl) d_M_teach_20 (fun v5 => ?_)
    refine zj_bipush 6 d_M_teach_23 (by decide) ?_
    refine zj_iload_n d_M_teach_25 rfl ?_
    refine zj_imul d_M_teach_26 ?_
    refine zj_iload_n d_M_teach_27 rfl ?_
    refine zj_iadd d_M_teach_28 ?_
    refine zj_zaload d_M_teach_29 (fun v6 => ?_)
    refine zj_if_ne 43 d_M_teach_30 rfl (fun _ => ?_) (fun _ => ?_)
    · refine zj_bipush (-3) d_M_teach_43 (by decide) ?_
      exact zj_iret rfl rfl rfl rfl d_M_teach_45
    refine zj_aload_n d_M_teach_33 rfl ?_
    refine zj_getR fl_M_24 (fun _ _ _ _ => rfl) d_M_teach_34 (fun v7 => ?_)
    refine zj_iload_n d_M_teach_37 rfl ?_
    refine zj_iaload d_M_teach_38 (fun v8 => ?_)
    refine zj_iload_n d_M_teach_39 rfl ?_
    refine zj_icmp_ne 46 d_M_teach_40 rfl (fun _ => ?_) (fun _ => ?_)
    · refine zj_aload_n d_M_teach_46 rfl ?_
      refine zj_getR fl_M_39 (fun _ _ _ _ => rfl) d_M_teach_47 (fun v9 => ?_)
      refine zj_bipush 6 d_M_teach_50 (by decide) ?_
      refine zj_iload_n d_M_teach_52 rfl ?_
      refine zj_imul d_M_teach_53 ?_
      refine zj_iload_n d_M_teach_54 rfl ?_
      refine zj_iadd d_M_teach_55 ?_
      refine zj_iconst 1 d_M_teach_56 (by decide) ?_
      refine zj_zastore d_M_teach_57 (fun u10 => ?_)
      refine zj_aload_n d_M_teach_58 rfl ?_
      refine zj_getR fl_M_36 (fun _ _ _ _ => rfl) d_M_teach_59 (fun v11 => ?_)
      refine zj_bipush 6 d_M_teach_62 (by decide) ?_
      refine zj_iload_n d_M_teach_64 rfl ?_
      refine zj_imul d_M_teach_65 ?_
      refine zj_iload_n d_M_teach_66 rfl ?_
      refine zj_iadd d_M_teach_67 ?_
      refine zj_aload_n d_M_teach_68 rfl ?_
      refine zj_getI fl_M_130 (fun _ _ _ _ => rfl) d_M_teach_69 (fun v12 => ?_)
      refine zj_iastore d_M_teach_72 (fun u13 => ?_)
      refine zj_aload_n d_M_teach_73 rfl ?_
      refine zj_iload_n d_M_teach_74 rfl ?_
      refine zj_cVIp (ci := 9) (T := zT9) (N := 53) [.int a1] zm_V_M_taughtMany ml_M_136 rfl (fun _ _ h => B_M_taughtMany g (d + 1) h) (Nat.le_refl _) ⟨Nat.zero_le _, Nat.zero_le _⟩ rfl rfl (by decide) d_M_teach_75 (fun v14 => ?_)
      exact zj_iret rfl rfl rfl rfl d_M_teach_78
    refine zj_bipush (-3) d_M_teach_43 (by decide) ?_
    exact zj_iret rfl rfl rfl rfl d_M_teach_45
  refine zj_bipush (-2) d_M_teach_16 (by decide) ?_
  exact zj_iret rfl rfl rfl rfl d_M_teach_18
def F_M_wellOf (u0 : zS) (this : Nat) (a1 : Int32) (a2 : Int32) : Option (Int32 × zS) := (zob u0 9 (some this)).bind fun q3 => (F_M_says u0 q3 0 a1 a2).bind <| zk fun v1 u2 => (F_M_held u2 v1 0 99).bind fun v4 => some (v4, u2)
set_option maxHeartbeats 4000000 in
set_option maxRecDepth 100000 in
theorem B_M_wellOf (g : zG) (d : Nat) {u0 : zS} {this : Nat} {a1 : Int32} {a2 : Int32} {o : Int32 × zS} (h : F_M_wellOf u0 this a1 a2 = some o) : zMt g zy_M_wellOf (d + 3) 0 0 [zr g (some this), .int a1, .int a2] u0 (some (.int o.1)) o.2 := by
  refine zMt_of2 (ls := [some (zr g (some this)), some (.int a1), some (.int a2)]) 0 (by decide +kernel) (by simp [lg_sl, zr_cat, zcI, zcJ]) (by simp [zal, zr_cat, zcI, zcJ, List.replicate]) ?_
  revert h
  show zJ g zy_M_wellOf (d + 3) 0 0 zwI o 0 0 0 [some (zr g (some this)), some (.int a1), some (.int a2)] [] u0 (F_M_wellOf u0 this a1 a2)
  unfold F_M_wellOf
  refine zj_aload_n d_M_wellOf_0 rfl ?_
  refine zj_iconst 0 d_M_wellOf_1 (by decide) ?_
  refine zj_iload_n d_M_wellOf_2 rfl ?_
  refine zj_iload_n d_M_wellOf_3 rfl ?_
  refine zj_cVI (ci := 9) (T := zT9) (N := 53) [.int 0, .int a1, .int a2] zm_V_M_says ml_M_260 rfl (fun _ _ h => B_M_says g (d) h) (Nat.le_refl _) ⟨Nat.zero_le _, Nat.zero_le _⟩ rfl rfl (by decide) d_M_wellOf_4 (fun v1 u2 => ?_)
  refine zj_iconst 0 d_M_wellOf_7 (by decide) ?_
  refine zj_bipush 99 d_M_wellOf_8 (by decide) ?_
  refine zj_cSIp [.int v1, .int 0, .int 99] zm_S_M_held ml_M_263 (fun _ h => B_M_held g (d + 1) h) (Nat.le_refl _) ⟨Nat.zero_le _, Nat.zero_le _⟩ rfl rfl (by decide) d_M_wellOf_10 (fun v4 => ?_)
  exact zj_iret rfl rfl rfl rfl d_M_wellOf_13
def F_X_costOf (u0 : zS) (this : Nat) (a1 : Option Nat) (a2 : Int32) : Option (Int32 × zS) := (zob u0 8 (some this)).bind fun q3 => (F_X_valueOf u0 q3 1 a1 a2).bind <| zk fun v1 u2 => (F_X_bounded u2 v1 1 99).bind fun v4 => some (v4, u2)
set_option maxHeartbeats 4000000 in
set_option maxRecDepth 100000 in
theorem B_X_costOf (g : zG) (d : Nat) {u0 : zS} {this : Nat} {a1 : Option Nat} {a2 : Int32} {o : Int32 × zS} (h : F_X_costOf u0 this a1 a2 = some o) : zMt g zy_X_costOf (d + 4) 0 0 [zr g (some this), zr g a1, .int a2] u0 (some (.int o.1)) o.2 := by
  refine zMt_of2 (ls := [some (zr g (some this)), some (zr g a1), some (.int a2)]) 0 (by decide +kernel) (by simp [lg_sl, zr_cat, zcI, zcJ]) (by simp [zal, zr_cat, zcI, zcJ, List.replicate]) ?_
  revert h
  show zJ g zy_X_costOf (d + 4) 0 0 zwI o 0 0 0 [some (zr g (some this)), some (zr g a1), some (.int a2)] [] u0 (F_X_costOf u0 this a1 a2)
  unfold F_X_costOf
  refine zj_aload_n d_X_costOf_0 rfl ?_
  refine zj_iconst 1 d_X_costOf_1 (by decide) ?_
  refine zj_aload_n d_X_costOf_2 rfl ?_
  refine zj_iload_n d_X_costOf_3 rfl ?_
  refine zj_cVI (ci := 8) (T := zT8) (N := 16) [.int 1, zr g a1, .int a2] zm_V_X_valueOf ml_X_342 rfl (fun _ _ h => B_X_valueOf g (d) h) (Nat.le_refl _) ⟨Nat.zero_le _, Nat.zero_le _⟩ rfl rfl (by decide) d_X_costOf_4 (fun v1 u2 => ?_)
  refine zj_iconst 1 d_X_costOf_7 (by decide) ?_
  refine zj_bipush 99 d_X_costOf_8 (by decide) ?_
  refine zj_cSIp [.int v1, .int 1, .int 99] zm_S_X_bounded ml_X_345 (fun _ h => B_X_bounded g (d + 1) h) (Nat.le_refl _) ⟨Nat.zero_le _, Nat.zero_le _⟩ rfl rfl (by decide) d_X_costOf_10 (fun v4 => ?_)
  exact zj_iret rfl rfl rfl rfl d_X_costOf_13
def F_X_first (u0 : zS) (this : Nat) : Option (Int32) := zfix3 (fun (r1 : Int32 → Int32 → Int32 → Option (Int32)) (x2 : Int32) (x3 : Int32) (x4 : Int32) => (zgI u0 8 (some this) 2).bind fun v5 => if v5 ≤ x4 then (some x2) else ((zgR u0 8 (some this) 1).bind fun v6 => (zaR u0 "PostsFilled$Person" v6 x4).bind fun v7 => zfix3 (fun (r8 : Int32 → Int32 → Int32 → Option (Int32)) (x9 : Int32) (x10 : Int32) (x11 : Int32) => (zgR u0 8 (some this) 0).bind fun v12 => (zgI u0 2 v12 0).bind fun v13 => if v13 ≤ x11 then (r1 x9 x10 (x4 + 1)) else ((zob u0 3 v7).bind fun q15 => (F_Person_isBarred u0 q15 x11).bind fun v14 => if v14 = 0 then ((zgR u0 8 (some this) 0).bind fun v16 => (zgI u0 2 v16 3).bind fun v17 => (zob u0 3 v7).bind fun q19 => (F_Person_recalls u0 q19 x11 v17).bind fun v18 => if v18 = 0 then (r8 x9 x10 (x11 + 1)) else ((zob u0 3 v7).bind fun q21 => (F_Person_keeps u0 q21 ).bind fun v20 => (zgR u0 8 (some this) 0).bind fun v22 => (zgI u0 2 v22 3).bind fun v23 => (zob u0 3 v7).bind fun q25 => (F_Person_since u0 q25 x11 v23).bind fun v24 => if x9 = (-1) then (zlet ((((10 : Int32) * x4) + x11) : Int32) fun x26 => r8 x26 (v20 - v24) (x11 + 1)) else (if x10 ≤ (v20 - v24) then (r8 x9 x10 (x11 + 1)) else (zlet ((((10 : Int32) * x4) + x11) : Int32) fun x27 => r8 x27 (v20 - v24) (x11 + 1))))) else (r8 x9 x10 (x11 + 1)))) zFU x2 x3 0)) zFU (-1) 0 0
set_option maxHeartbeats 4000000 in
set_option maxRecDepth 100000 in
theorem B_X_first (g : zG) (d : Nat) {u0 : zS} {this : Nat} {o : Int32} (h : F_X_first u0 this = some o) : zMt g zy_X_first (d + 4) 0 0 [zr g (some this)] u0 (some (.int o)) u0 := by
  refine zMt_of2 (ls := [some (zr g (some this)), none, none, none, none, none, none]) 6 (by decide +kernel) (by simp [lg_sl, zr_cat, zcI, zcJ]) (by simp [zal, zr_cat, zcI, zcJ, List.replicate]) ?_
  revert h
  show zJ g zy_X_first (d + 4) 0 0 (zwIp u0) o 0 0 0 [some (zr g (some this)), none, none, none, none, none, none] [] u0 (F_X_first u0 this)
  unfold F_X_first
  refine zj_iconst (-1) d_X_first_0 (by decide) ?_
  refine zj_istore_n [some (zr g (some this)), some (.int (-1)), none, none, none, none, none] d_X_first_1 (by decide) rfl rfl ?_
  refine zj_iconst 0 d_X_first_2 (by decide) ?_
  refine zj_istore_n [some (zr g (some this)), some (.int (-1)), some (.int 0), none, none, none, none] d_X_first_3 (by decide) rfl rfl ?_
  refine zj_iconst 0 d_X_first_4 (by decide) ?_
  refine zj_istore_n [some (zr g (some this)), some (.int (-1)), some (.int 0), some (.int 0), none, none, none] d_X_first_5 (by decide) rfl rfl ?_
  refine zj_fix3 (fun x2 x3 x4 => [some (zr g (some this)), some (.int x2), some (.int x3), some (.int x4), none, none, none]) (fun x2 x3 x4 => u0) (fun r1 hr1 x2 x3 x4 => ?_) (-1) 0 0
  refine zj_iload_n d_X_first_6 rfl ?_
  refine zj_aload_n d_X_first_7 rfl ?_
  refine zj_getI fl_X_22 (fun _ _ _ _ => rfl) d_X_first_8 (fun v5 => ?_)
  refine zj_icmp_ge 123 d_X_first_11 rfl (fun _ => ?_) (fun _ => ?_)
  · refine zj_iload_n d_X_first_123 rfl ?_
    exact zj_iret rfl rfl rfl rfl d_X_first_124
  refine zj_aload_n d_X_first_14 rfl ?_
  refine zj_getR fl_X_18 (fun _ _ _ _ => rfl) d_X_first_15 (fun v6 => ?_)
  refine zj_iload_n d_X_first_18 rfl ?_
  refine zj_aaload 4 rfl d_X_first_19 (fun v7 => ?_)
  refine zj_astore [some (zr g (some this)), some (.int x2), some (.int x3), some (.int x4), some (zr g v7), none, none] d_X_first_20 (by decide) rfl rfl ?_
  refine zj_iconst 0 d_X_first_22 (by decide) ?_
  refine zj_istore [some (zr g (some this)), some (.int x2), some (.int x3), some (.int x4), some (zr g v7), some (.int 0), none] d_X_first_23 (by decide) (by simp [zNL, zr_cat]) rfl ?_
  refine zj_fix3 (fun x9 x10 x11 => [some (zr g (some this)), some (.int x9), some (.int x10), some (.int x4), some (zr g v7), some (.int x11), none]) (fun x9 x10 x11 => u0) (fun r8 hr8 x9 x10 x11 => ?_) x2 x3 0
  refine zj_iload d_X_first_25 rfl ?_
  refine zj_aload_n d_X_first_27 rfl ?_
  refine zj_getR fl_X_10 (fun _ _ _ _ => rfl) d_X_first_28 (fun v12 => ?_)
  refine zj_getI fl_X_254 (fun _ _ _ _ => rfl) d_X_first_31 (fun v13 => ?_)
  refine zj_icmp_ge 117 d_X_first_34 rfl (fun _ => ?_) (fun _ => ?_)
  · refine zj_iinc (v := (x4 + 1)) [some (zr g (some this)), some (.int x9), some (.int x10), some (.int (x4 + 1)), some (zr g v7), some (.int x11), none] d_X_first_117 rfl rfl (by decide) rfl rfl ?_
    refine zj_goto 6 d_X_first_120 rfl ?_
    refine zj_cut [some (zr g (some this)), some (.int x9), some (.int x10), some (.int (x4 + 1)), none, none, none] ⟨rfl, ⟨rfl, ⟨rfl, ⟨rfl, trivial⟩⟩⟩⟩ ?_
    exact hr1 x9 x10 (x4 + 1)
  refine zj_aload d_X_first_37 rfl ?_
  refine zj_iload d_X_first_39 rfl ?_
  refine zj_cVIp (ci := 3) (T := zT3) (N := 10) [.int x11] zm_V_Person_isBarred ml_X_135 rfl (fun _ _ h => B_Person_isBarred g (d + 2) h) (Nat.le_refl _) ⟨Nat.zero_le _, Nat.zero_le _⟩ rfl rfl (by decide) d_X_first_41 (fun v14 => ?_)
  refine zj_if_ne 111 d_X_first_44 rfl (fun _ => ?_) (fun _ => ?_)
  · refine zj_iinc (v := (x11 + 1)) [some (zr g (some this)), some (.int x9), some (.int x10), some (.int x4), some (zr g v7), some (.int (x11 + 1)), none] d_X_first_111 rfl rfl (by decide) (by simp [zNL, zr_cat]) rfl ?_
    refine zj_goto 25 d_X_first_114 rfl ?_
    exact hr8 x9 x10 (x11 + 1)
  refine zj_aload d_X_first_47 rfl ?_
  refine zj_iload d_X_first_49 rfl ?_
  refine zj_aload_n d_X_first_51 rfl ?_
  refine zj_getR fl_X_10 (fun _ _ _ _ => rfl) d_X_first_52 (fun v16 => ?_)
  refine zj_getI fl_X_126 (fun _ _ _ _ => rfl) d_X_first_55 (fun v17 => ?_)
  refine zj_cVIp (ci := 3) (T := zT3) (N := 10) [.int x11, .int v17] zm_V_Person_recalls ml_X_271 rfl (fun _ _ h => B_Person_recalls g (d) h) (Nat.le_refl _) ⟨Nat.zero_le _, Nat.zero_le _⟩ rfl rfl (by decide) d_X_first_58 (fun v18 => ?_)
  refine zj_if_ne 67 d_X_first_61 rfl (fun _ => ?_) (fun _ => ?_)
  · refine zj_aload d_X_first_67 rfl ?_
    refine zj_cVIp (ci := 3) (T := zT3) (N := 10) [] zm_V_Person_keeps ml_X_160 rfl (fun _ _ h => B_Person_keeps g (d + 1) h) (Nat.le_refl _) ⟨Nat.zero_le _, Nat.zero_le _⟩ rfl rfl (by decide) d_X_first_69 (fun v20 => ?_)
    refine zj_aload d_X_first_72 rfl ?_
    refine zj_iload d_X_first_74 rfl ?_
    refine zj_aload_n d_X_first_76 rfl ?_
    refine zj_getR fl_X_10 (fun _ _ _ _ => rfl) d_X_first_77 (fun v22 => ?_)
    refine zj_getI fl_X_126 (fun _ _ _ _ => rfl) d_X_first_80 (fun v23 => ?_)
    refine zj_cVIp (ci := 3) (T := zT3) (N := 10) [.int x11, .int v23] zm_V_Person_since ml_X_274 rfl (fun _ _ h => B_Person_since g (d + 2) h) (Nat.le_refl _) ⟨Nat.zero_le _, Nat.zero_le _⟩ rfl rfl (by simp [zcI, zcJ]) d_X_first_83 (fun v24 => ?_)
    refine zj_isub d_X_first_86 ?_
    refine zj_istore [some (zr g (some this)), some (.int x9), some (.int x10), some (.int x4), some (zr g v7), some (.int x11), some (.int (v20 - v24))] d_X_first_87 (by decide) rfl rfl ?_
    refine zj_iload_n d_X_first_89 rfl ?_
    refine zj_iconst (-1) d_X_first_90 (by decide) ?_
    refine zj_icmp_eq 100 d_X_first_91 rfl (fun _ => ?_) (fun _ => ?_)
    · refine zj_bipush 10 d_X_first_100 (by decide) ?_
      refine zj_iload_n d_X_first_102 rfl ?_
      refine zj_imul d_X_first_103 ?_
      refine zj_iload d_X_first_104 rfl ?_
      refine zj_iadd d_X_first_106 ?_
      refine zj_letI (fun x26 => ?_)
      refine zj_istore_n [some (zr g (some this)), some (.int x26), some (.int x10), some (.int x4), some (zr g v7), some (.int x11), some (.int (v20 - v24))] d_X_first_107 (by decide) rfl rfl ?_
      refine zj_iload d_X_first_108 rfl ?_
      refine zj_istore_n [some (zr g (some this)), some (.int x26), some (.int (v20 - v24)), some (.int x4), some (zr g v7), some (.int x11), some (.int (v20 - v24))] d_X_first_110 (by decide) rfl rfl ?_
      refine zj_iinc (v := (x11 + 1)) [some (zr g (some this)), some (.int x26), some (.int (v20 - v24)), some (.int x4), some (zr g v7), some (.int (x11 + 1)), some (.int (v20 - v24))] d_X_first_111 rfl rfl (by decide) (by simp [zNL, zr_cat]) rfl ?_
      refine zj_goto 25 d_X_first_114 rfl ?_
      refine zj_cut [some (zr g (some this)), some (.int x26), some (.int (v20 - v24)), some (.int x4), some (zr g v7), some (.int (x11 + 1)), none] ⟨rfl, ⟨rfl, ⟨rfl, ⟨rfl, ⟨rfl, ⟨rfl, trivial⟩⟩⟩⟩⟩⟩ ?_
      exact hr8 x26 (v20 - v24) (x11 + 1)
    refine zj_iload d_X_first_94 rfl ?_
    refine zj_iload_n d_X_first_96 rfl ?_
    refine zj_icmp_ge 111 d_X_first_97 rfl (fun _ => ?_) (fun _ => ?_)
    · refine zj_iinc (v := (x11 + 1)) [some (zr g (some this)), some (.int x9), some (.int x10), some (.int x4), some (zr g v7), some (.int (x11 + 1)), some (.int (v20 - v24))] d_X_first_111 rfl rfl (by decide) (by simp [zNL, zr_cat]) rfl ?_
      refine zj_goto 25 d_X_first_114 rfl ?_
      refine zj_cut [some (zr g (some this)), some (.int x9), some (.int x10), some (.int x4), some (zr g v7), some (.int (x11 + 1)), none] ⟨rfl, ⟨rfl, ⟨rfl, ⟨rfl, ⟨rfl, ⟨rfl, trivial⟩⟩⟩⟩⟩⟩ ?_
      exact hr8 x9 x10 (x11 + 1)
    refine zj_bipush 10 d_X_first_100 (by decide) ?_
    refine zj_iload_n d_X_first_102 rfl ?_
    refine zj_imul d_X_first_103 ?_
    refine zj_iload d_X_first_104 rfl ?_
    refine zj_iadd d_X_first_106 ?_
    refine zj_letI (fun x27 => ?_)
    refine zj_istore_n [some (zr g (some this)), some (.int x27), some (.int x10), some (.int x4), some (zr g v7), some (.int x11), some (.int (v20 - v24))] d_X_first_107 (by decide) rfl rfl ?_
    refine zj_iload d_X_first_108 rfl ?_
    refine zj_istore_n [some (zr g (some this)), some (.int x27), some (.int (v20 - v24)), some (.int x4), some (zr g v7), some (.int x11), some (.int (v20 - v24))] d_X_first_110 (by decide) rfl rfl ?_
    refine zj_iinc (v := (x11 + 1)) [some (zr g (some this)), some (.int x27), some (.int (v20 - v24)), some (.int x4), some (zr g v7), some (.int (x11 + 1)), some (.int (v20 - v24))] d_X_first_111 rfl rfl (by decide) (by simp [zNL, zr_cat]) rfl ?_
    refine zj_goto 25 d_X_first_114 rfl ?_
    refine zj_cut [some (zr g (some this)), some (.int x27), some (.int (v20 - v24)), some (.int x4), some (zr g v7), some (.int (x11 + 1)), none] ⟨rfl, ⟨rfl, ⟨rfl, ⟨rfl, ⟨rfl, ⟨rfl, trivial⟩⟩⟩⟩⟩⟩ ?_
    exact hr8 x27 (v20 - v24) (x11 + 1)
  refine zj_goto 111 d_X_first_64 rfl ?_
  refine zj_iinc (v := (x11 + 1)) [some (zr g (some this)), some (.int x9), some (.int x10), some (.int x4), some (zr g v7), some (.int (x11 + 1)), none] d_X_first_111 rfl rfl (by decide) (by simp [zNL, zr_cat]) rfl ?_
  refine zj_goto 25 d_X_first_114 rfl ?_
  exact hr8 x9 x10 (x11 + 1)
