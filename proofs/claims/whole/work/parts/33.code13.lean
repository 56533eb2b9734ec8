def F_X_text (u0 : zS) (this : Nat) : Option (Int32 × zS) := (zgI u0 8 (some this) 5).bind fun v1 => if v1 < 6 then ((zgR u0 8 (some this) 3).bind fun v2 => (zgR u0 8 (some this) 4).bind fun v3 => (zgI u0 8 (some this) 5).bind fun v4 => (zaR u0 "PostsFilled$Text" v3 v4).bind fun v5 => (zob u0 5 v2).bind fun q8 => (F_Reader_read u0 q8 v5).bind <| zk fun v6 u7 => if v6 = (-1) then ((zgI u7 8 (some this) 5).bind fun v9 => (zpI u7 8 (some this) 5 (v9 + 1)).bind fun u10 => (zgI u10 8 (some this) 5).bind fun v11 => some ((v11 - 1), u10)) else (some (((-100 : Int32) - v6), u7))) else (some ((-4), u0))
set_option maxHeartbeats 4000000 in
set_option maxRecDepth 100000 in
theorem B_X_text (g : zG) (d : Nat) {u0 : zS} {this : Nat} {o : Int32 × zS} (h : F_X_text u0 this = some o) : zMt g zy_X_text (d + 77) 0 0 [zr g (some this)] u0 (some (.int o.1)) o.2 := by
  refine zMt_of2 (ls := [some (zr g (some this)), none]) 1 (by decide +kernel) (by simp [lg_sl, zr_cat, zcI, zcJ]) (by simp [zal, zr_cat, zcI, zcJ, List.replicate]) ?_
  revert h
  show zJ g zy_X_text (d + 77) 0 0 zwI o 0 0 0 [some (zr g (some this)), none] [] u0 (F_X_text u0 this)
  unfold F_X_text
  refine zj_aload_n d_X_text_0 rfl ?_
  refine zj_getI fl_X_32 (fun _ _ _ _ => rfl) d_X_text_1 (fun v1 => ?_)
  refine zj_bipush 6 d_X_text_4 (by decide) ?_
  refine zj_icmp_lt 12 d_X_text_6 rfl (fun _ => ?_) (fun _ => ?_)
  · refine zj_aload_n d_X_text_12 rfl ?_
    refine zj_getR fl_X_90 (fun _ _ _ _ => rfl) d_X_text_13 (fun v2 => ?_)
    refine zj_aload_n d_X_text_16 rfl ?_
    refine zj_getR fl_X_28 (fun _ _ _ _ => rfl) d_X_text_17 (fun v3 => ?_)
    refine zj_aload_n d_X_text_20 rfl ?_
    refine zj_getI fl_X_32 (fun _ _ _ _ => rfl) d_X_text_21 (fun v4 => ?_)
    refine zj_aaload 5 rfl d_X_text_24 (fun v5 => ?_)
    refine zj_cVI (ci := 5) (T := zT5) (N := 8) [zr g v5] zm_V_Reader_read ml_X_110 rfl (fun _ _ h => B_Reader_read g (d) h) (Nat.le_refl _) ⟨Nat.zero_le _, Nat.zero_le _⟩ rfl rfl (by decide) d_X_text_25 (fun v6 u7 => ?_)
    refine zj_istore_n [some (zr g (some this)), some (.int v6)] d_X_text_28 (by decide) rfl rfl ?_
    refine zj_iload_n d_X_text_29 rfl ?_
    refine zj_iconst (-1) d_X_text_30 (by decide) ?_
    refine zj_icmp_eq 39 d_X_text_31 rfl (fun _ => ?_) (fun _ => ?_)
    · refine zj_aload_n d_X_text_39 rfl ?_
      refine zj_dup d_X_text_40 (zr_cat _ _) ?_
      refine zj_getI fl_X_32 (fun _ _ _ _ => rfl) d_X_text_41 (fun v9 => ?_)
      refine zj_iconst 1 d_X_text_44 (by decide) ?_
      refine zj_iadd d_X_text_45 ?_
      refine zj_putI fl_X_32 (fun _ _ _ _ => rfl) ⟨rfl, rfl⟩ d_X_text_46 (fun u10 => ?_)
      refine zj_aload_n d_X_text_49 rfl ?_
      refine zj_getI fl_X_32 (fun _ _ _ _ => rfl) d_X_text_50 (fun v11 => ?_)
      refine zj_iconst 1 d_X_text_53 (by decide) ?_
      refine zj_isub d_X_text_54 ?_
      exact zj_iret rfl rfl rfl rfl d_X_text_55
    refine zj_bipush (-100) d_X_text_34 (by decide) ?_
    refine zj_iload_n d_X_text_36 rfl ?_
    refine zj_isub d_X_text_37 ?_
    exact zj_iret rfl rfl rfl rfl d_X_text_38
  refine zj_bipush (-4) d_X_text_9 (by decide) ?_
  exact zj_iret rfl rfl rfl rfl d_X_text_11
