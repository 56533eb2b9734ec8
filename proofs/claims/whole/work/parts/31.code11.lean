def F_Reader_expect (u0 : zS) (this : Nat) (a1 : Int32) : Option (zS) := (zgI u0 5 (some this) 4).bind fun v1 => if v1 = a1 then ((zob u0 5 (some this)).bind fun q7 => (F_Reader_advance u0 q7 ).bind fun u6 => some u6) else ((zob u0 5 (some this)).bind fun q4 => (F_Reader_refuse u0 q4 ).bind fun u3 => some u3)
set_option maxHeartbeats 4000000 in
set_option maxRecDepth 100000 in
theorem B_Reader_expect (g : zG) (d : Nat) {u0 : zS} {this : Nat} {a1 : Int32} {o : zS} (h : F_Reader_expect u0 this a1 = some o) : zMt g zy_Reader_expect (d + 10) 0 0 [zr g (some this), .int a1] u0 none o := by
  refine zMt_of2 (ls := [some (zr g (some this)), some (.int a1)]) 0 (by decide +kernel) (by simp [lg_sl, zr_cat, zcI, zcJ]) (by simp [zal, zr_cat, zcI, zcJ, List.replicate]) ?_
  revert h
  show zJ g zy_Reader_expect (d + 10) 0 0 zwV o 0 0 0 [some (zr g (some this)), some (.int a1)] [] u0 (F_Reader_expect u0 this a1)
  unfold F_Reader_expect
  refine zj_aload_n d_Reader_expect_0 rfl ?_
  refine zj_getI fl_Reader_22 (fun _ _ _ _ => rfl) d_Reader_expect_1 (fun v1 => ?_)
  refine zj_iload_n d_Reader_expect_4 rfl ?_
  refine zj_icmp_ne 15 d_Reader_expect_5 rfl (fun _ => ?_) (fun _ => ?_)
  · refine zj_aload_n d_Reader_expect_15 rfl ?_
    refine zj_cVU (ci := 5) (T := zT5) (N := 8) [] zm_V_Reader_refuse ml_Reader_56 rfl (fun _ _ h => B_Reader_refuse g (d + 8) h) (Nat.le_refl _) ⟨Nat.zero_le _, Nat.zero_le _⟩ rfl rfl (by decide) d_Reader_expect_16 (fun u3 => ?_)
    exact zj_vret rfl rfl rfl rfl d_Reader_expect_19
  refine zj_aload_n d_Reader_expect_8 rfl ?_
  refine zj_cVU (ci := 5) (T := zT5) (N := 8) [] zm_V_Reader_advance ml_Reader_43 rfl (fun _ _ h => B_Reader_advance g (d) h) (Nat.le_refl _) ⟨Nat.zero_le _, Nat.zero_le _⟩ rfl rfl (by decide) d_Reader_expect_9 (fun u6 => ?_)
  refine zj_goto 19 d_Reader_expect_12 rfl ?_
  exact zj_vret rfl rfl rfl rfl d_Reader_expect_19
def F_Reader_opens (u0 : zS) (this : Nat) (a1 : Int32) : Option (Int32 × zS) := if a1 < 5 then ((zob u0 5 (some this)).bind fun q3 => (F_Reader_advance u0 q3 ).bind fun u2 => some (1, u2)) else ((zob u0 5 (some this)).bind fun q6 => (F_Reader_refuse u0 q6 ).bind fun u5 => some (0, u5))
set_option maxHeartbeats 4000000 in
set_option maxRecDepth 100000 in
theorem B_Reader_opens (g : zG) (d : Nat) {u0 : zS} {this : Nat} {a1 : Int32} {o : Int32 × zS} (h : F_Reader_opens u0 this a1 = some o) : zMt g zy_Reader_opens (d + 10) 0 0 [zr g (some this), .int a1] u0 (some (.int o.1)) o.2 := by
  refine zMt_of2 (ls := [some (zr g (some this)), some (.int a1)]) 0 (by decide +kernel) (by simp [lg_sl, zr_cat, zcI, zcJ]) (by simp [zal, zr_cat, zcI, zcJ, List.replicate]) ?_
  revert h
  show zJ g zy_Reader_opens (d + 10) 0 0 zwI o 0 0 0 [some (zr g (some this)), some (.int a1)] [] u0 (F_Reader_opens u0 this a1)
  unfold F_Reader_opens
  refine zj_iload_n d_Reader_opens_0 rfl ?_
  refine zj_iconst 5 d_Reader_opens_1 (by decide) ?_
  refine zj_icmp_lt 11 d_Reader_opens_2 rfl (fun _ => ?_) (fun _ => ?_)
  · refine zj_aload_n d_Reader_opens_11 rfl ?_
    refine zj_cVU (ci := 5) (T := zT5) (N := 8) [] zm_V_Reader_advance ml_Reader_43 rfl (fun _ _ h => B_Reader_advance g (d) h) (Nat.le_refl _) ⟨Nat.zero_le _, Nat.zero_le _⟩ rfl rfl (by decide) d_Reader_opens_12 (fun u2 => ?_)
    refine zj_iconst 1 d_Reader_opens_15 (by decide) ?_
    exact zj_zretL (by decide) rfl rfl rfl rfl d_Reader_opens_16
  refine zj_aload_n d_Reader_opens_5 rfl ?_
  refine zj_cVU (ci := 5) (T := zT5) (N := 8) [] zm_V_Reader_refuse ml_Reader_56 rfl (fun _ _ h => B_Reader_refuse g (d + 8) h) (Nat.le_refl _) ⟨Nat.zero_le _, Nat.zero_le _⟩ rfl rfl (by decide) d_Reader_opens_6 (fun u5 => ?_)
  refine zj_iconst 0 d_Reader_opens_9 (by decide) ?_
  exact zj_zretL (by decide) rfl rfl rfl rfl d_Reader_opens_10
def F_Reader_readAnd (rec : Nat → zS → Nat → Int32 → Option zS) (u0 : zS) (this : Nat) (a1 : Int32) : Option (zS) := (zob u0 5 (some this)).bind fun q3 => (rec 3 u0 q3 a1).bind fun u2 => zfix2 (fun (r4 : zS → Int32 → Option (zS)) (u5 : zS) (x6 : Int32) => if 160 ≤ x6 then (some u5) else ((zgI u5 5 (some this) 4).bind fun v7 => if v7 = 10 then ((zob u5 5 (some this)).bind fun q10 => (F_Reader_advance u5 q10 ).bind fun u9 => (zob u9 5 (some this)).bind fun q13 => (rec 3 u9 q13 a1).bind fun u12 => (zgR u12 5 (some this) 2).bind fun v14 => (zob u12 7 v14).bind fun q17 => (F_Text_add u12 q17 20003).bind fun u16 => r4 u16 (x6 + 1)) else (some u5))) zFU u2 0
set_option maxHeartbeats 4000000 in
set_option maxRecDepth 100000 in
theorem B_Reader_readAnd (g : zG) (d : Nat) (hdd : 12 ≤ d) {rec : Nat → zS → Nat → Int32 → Option zS} (hrec_readOne : ∀ {u0 : zS} {this : Nat} {a1 : Int32} {o : zS}, rec 0 u0 this a1 = some o → zMt g zy_Reader_readOne d 0 0 [zr g (some this), .int a1] u0 none o) (hrec_readTerm : ∀ {u0 : zS} {this : Nat} {a1 : Int32} {o : zS}, rec 1 u0 this a1 = some o → zMt g zy_Reader_readTerm d 0 0 [zr g (some this), .int a1] u0 none o) (hrec_readSum : ∀ {u0 : zS} {this : Nat} {a1 : Int32} {o : zS}, rec 2 u0 this a1 = some o → zMt g zy_Reader_readSum d 0 0 [zr g (some this), .int a1] u0 none o) (hrec_readNot : ∀ {u0 : zS} {this : Nat} {a1 : Int32} {o : zS}, rec 3 u0 this a1 = some o → zMt g zy_Reader_readNot d 0 0 [zr g (some this), .int a1] u0 none o) (hrec_readAnd : ∀ {u0 : zS} {this : Nat} {a1 : Int32} {o : zS}, rec 4 u0 this a1 = some o → zMt g zy_Reader_readAnd d 0 0 [zr g (some this), .int a1] u0 none o) (hrec_readOr : ∀ {u0 : zS} {this : Nat} {a1 : Int32} {o : zS}, rec 5 u0 this a1 = some o → zMt g zy_Reader_readOr d 0 0 [zr g (some this), .int a1] u0 none o) {u0 : zS} {this : Nat} {a1 : Int32} {o : zS} (h : F_Reader_readAnd rec u0 this a1 = some o) : zMt g zy_Reader_readAnd (d + 1) 0 0 [zr g (some this), .int a1] u0 none o := by
  refine zMt_of2 (ls := [some (zr g (some this)), some (.int a1), none]) 1 (by decide +kernel) (by simp [lg_sl, zr_cat, zcI, zcJ]) (by simp [zal, zr_cat, zcI, zcJ, List.replicate]) ?_
  revert h
  show zJ g zy_Reader_readAnd (d + 1) 0 0 zwV o 0 0 0 [some (zr g (some this)), some (.int a1), none] [] u0 (F_Reader_readAnd rec u0 this a1)
  unfold F_Reader_readAnd
  refine zj_aload_n d_Reader_readAnd_0 rfl ?_
  refine zj_iload_n d_Reader_readAnd_1 rfl ?_
  refine zj_cVU (ci := 5) (T := zT5) (N := 8) [.int a1] zm_V_Reader_readNot ml_Reader_65 rfl (fun _ _ h => hrec_readNot h) (Nat.le_refl _) ⟨Nat.zero_le _, Nat.zero_le _⟩ rfl rfl (by decide) d_Reader_readAnd_2 (fun u2 => ?_)
  refine zj_iconst 0 d_Reader_readAnd_5 (by decide) ?_
  refine zj_istore_n [some (zr g (some this)), some (.int a1), some (.int 0)] d_Reader_readAnd_6 (by decide) rfl rfl ?_
  refine zj_fix2 (fun u5 x6 => [some (zr g (some this)), some (.int a1), some (.int x6)]) (fun u5 x6 => u5) (fun r4 hr4 u5 x6 => ?_) u2 0
  refine zj_iload_n d_Reader_readAnd_7 rfl ?_
  refine zj_sipush 160 d_Reader_readAnd_8 (by decide) ?_
  refine zj_icmp_ge 48 d_Reader_readAnd_11 rfl (fun _ => ?_) (fun _ => ?_)
  · exact zj_vret rfl rfl rfl rfl d_Reader_readAnd_48
  refine zj_aload_n d_Reader_readAnd_14 rfl ?_
  refine zj_getI fl_Reader_22 (fun _ _ _ _ => rfl) d_Reader_readAnd_15 (fun v7 => ?_)
  refine zj_bipush 10 d_Reader_readAnd_18 (by decide) ?_
  refine zj_icmp_ne 48 d_Reader_readAnd_20 rfl (fun _ => ?_) (fun _ => ?_)
  · exact zj_vret rfl rfl rfl rfl d_Reader_readAnd_48
  refine zj_aload_n d_Reader_readAnd_23 rfl ?_
  refine zj_cVU (ci := 5) (T := zT5) (N := 8) [] zm_V_Reader_advance ml_Reader_43 rfl (fun _ _ h => B_Reader_advance g (d - 9) h) (by omega) ⟨Nat.zero_le _, Nat.zero_le _⟩ rfl rfl (by decide) d_Reader_readAnd_24 (fun u9 => ?_)
  refine zj_aload_n d_Reader_readAnd_27 rfl ?_
  refine zj_iload_n d_Reader_readAnd_28 rfl ?_
  refine zj_cVU (ci := 5) (T := zT5) (N := 8) [.int a1] zm_V_Reader_readNot ml_Reader_65 rfl (fun _ _ h => hrec_readNot h) (Nat.le_refl _) ⟨Nat.zero_le _, Nat.zero_le _⟩ rfl rfl (by decide) d_Reader_readAnd_29 (fun u12 => ?_)
  refine zj_aload_n d_Reader_readAnd_32 rfl ?_
  refine zj_getR fl_Reader_34 (fun _ _ _ _ => rfl) d_Reader_readAnd_33 (fun v14 => ?_)
  refine zj_sipush 20003 d_Reader_readAnd_36 (by decide) ?_
  refine zj_cVU (ci := 7) (T := zT7) (N := 4) [.int 20003] zm_V_Text_add ml_Reader_62 rfl (fun _ _ h => B_Text_add g (d - 1) h) (by omega) ⟨Nat.zero_le _, Nat.zero_le _⟩ rfl rfl (by decide) d_Reader_readAnd_39 (fun u16 => ?_)
  refine zj_iinc (v := (x6 + 1)) [some (zr g (some this)), some (.int a1), some (.int (x6 + 1))] d_Reader_readAnd_42 rfl rfl (by decide) rfl rfl ?_
  refine zj_goto 7 d_Reader_readAnd_45 rfl ?_
  exact hr4 u16 (x6 + 1)
def F_Reader_readOr (rec : Nat → zS → Nat → Int32 → Option zS) (u0 : zS) (this : Nat) (a1 : Int32) : Option (zS) := (zob u0 5 (some this)).bind fun q3 => (rec 4 u0 q3 a1).bind fun u2 => zfix2 (fun (r4 : zS → Int32 → Option (zS)) (u5 : zS) (x6 : Int32) => if 160 ≤ x6 then (some u5) else ((zgI u5 5 (some this) 4).bind fun v7 => if v7 = 9 then ((zob u5 5 (some this)).bind fun q10 => (F_Reader_advance u5 q10 ).bind fun u9 => (zob u9 5 (some this)).bind fun q13 => (rec 4 u9 q13 a1).bind fun u12 => (zgR u12 5 (some this) 2).bind fun v14 => (zob u12 7 v14).bind fun q17 => (F_Text_add u12 q17 20002).bind fun u16 => r4 u16 (x6 + 1)) else (some u5))) zFU u2 0
set_option maxHeartbeats 4000000 in
set_option maxRecDepth 100000 in
theorem B_Reader_readOr (g : zG) (d : Nat) (hdd : 12 ≤ d) {rec : Nat → zS → Nat → Int32 → Option zS} (hrec_readOne : ∀ {u0 : zS} {this : Nat} {a1 : Int32} {o : zS}, rec 0 u0 this a1 = some o → zMt g zy_Reader_readOne d 0 0 [zr g (some this), .int a1] u0 none o) (hrec_readTerm : ∀ {u0 : zS} {this : Nat} {a1 : Int32} {o : zS}, rec 1 u0 this a1 = some o → zMt g zy_Reader_readTerm d 0 0 [zr g (some this), .int a1] u0 none o) (hrec_readSum : ∀ {u0 : zS} {this : Nat} {a1 : Int32} {o : zS}, rec 2 u0 this a1 = some o → zMt g zy_Reader_readSum d 0 0 [zr g (some this), .int a1] u0 none o) (hrec_readNot : ∀ {u0 : zS} {this : Nat} {a1 : Int32} {o : zS}, rec 3 u0 this a1 = some o → zMt g zy_Reader_readNot d 0 0 [zr g (some this), .int a1] u0 none o) (hrec_readAnd : ∀ {u0 : zS} {this : Nat} {a1 : Int32} {o : zS}, rec 4 u0 this a1 = some o → zMt g zy_Reader_readAnd d 0 0 [zr g (some this), .int a1] u0 none o) (hrec_readOr : ∀ {u0 : zS} {this : Nat} {a1 : Int32} {o : zS}, rec 5 u0 this a1 = some o → zMt g zy_Reader_readOr d 0 0 [zr g (some this), .int a1] u0 none o) {u0 : zS} {this : Nat} {a1 : Int32} {o : zS} (h : F_Reader_readOr rec u0 this a1 = some o) : zMt g zy_Reader_readOr (d + 1) 0 0 [zr g (some this), .int a1] u0 none o := by
  refine zMt_of2 (ls := [some (zr g (some this)), some (.int a1), none]) 1 (by decide +kernel) (by simp [lg_sl, zr_cat, zcI, zcJ]) (by simp [zal, zr_cat, zcI, zcJ, List.replicate]) ?_
  revert h
  show zJ g zy_Reader_readOr (d + 1) 0 0 zwV o 0 0 0 [some (zr g (some this)), some (.int a1), none] [] u0 (F_Reader_readOr rec u0 this a1)
  unfold F_Reader_readOr
  refine zj_aload_n d_Reader_readOr_0 rfl ?_
  refine zj_iload_n d_Reader_readOr_1 rfl ?_
  refine zj_cVU (ci := 5) (T := zT5) (N := 8) [.int a1] zm_V_Reader_readAnd ml_Reader_59 rfl (fun _ _ h => hrec_readAnd h) (Nat.le_refl _) ⟨Nat.zero_le _, Nat.zero_le _⟩ rfl rfl (by decide) d_Reader_readOr_2 (fun u2 => ?_)
  refine zj_iconst 0 d_Reader_readOr_5 (by decide) ?_
  refine zj_istore_n [some (zr g (some this)), some (.int a1), some (.int 0)] d_Reader_readOr_6 (by decide) rfl rfl ?_
  refine zj_fix2 (fun u5 x6 => [some (zr g (some this)), some (.int a1), some (.int x6)]) (fun u5 x6 => u5) (fun r4 hr4 u5 x6 => ?_) u2 0
  refine zj_iload_n d_Reader_readOr_7 rfl ?_
  refine zj_sipush 160 d_Reader_readOr_8 (by decide) ?_
  refine zj_icmp_ge 48 d_Reader_readOr_11 rfl (fun _ => ?_) (fun _ => ?_)
  · exact zj_vret rfl rfl rfl rfl d_Reader_readOr_48
  refine zj_aload_n d_Reader_readOr_14 rfl ?_
  refine zj_getI fl_Reader_22 (fun _ _ _ _ => rfl) d_Reader_readOr_15 (fun v7 => ?_)
  refine zj_bipush 9 d_Reader_readOr_18 (by decide) ?_
  refine zj_icmp_ne 48 d_Reader_readOr_20 rfl (fun _ => ?_) (fun _ => ?_)
  · exact zj_vret rfl rfl rfl rfl d_Reader_readOr_48
  refine zj_aload_n d_Reader_readOr_23 rfl ?_
  refine zj_cVU (ci := 5) (T := zT5) (N := 8) [] zm_V_Reader_advance ml_Reader_43 rfl (fun _ _ h => B_Reader_advance g (d - 9) h) (by omega) ⟨Nat.zero_le _, Nat.zero_le _⟩ rfl rfl (by decide) d_Reader_readOr_24 (fun u9 => ?_)
  refine zj_aload_n d_Reader_readOr_27 rfl ?_
  refine zj_iload_n d_Reader_readOr_28 rfl ?_
  refine zj_cVU (ci := 5) (T := zT5) (N := 8) [.int a1] zm_V_Reader_readAnd ml_Reader_59 rfl (fun _ _ h => hrec_readAnd h) (Nat.le_refl _) ⟨Nat.zero_le _, Nat.zero_le _⟩ rfl rfl (by decide) d_Reader_readOr_29 (fun u12 => ?_)
  refine zj_aload_n d_Reader_readOr_32 rfl ?_
  refine zj_getR fl_Reader_34 (fun _ _ _ _ => rfl) d_Reader_readOr_33 (fun v14 => ?_)
  refine zj_sipush 20002 d_Reader_readOr_36 (by decide) ?_
  refine zj_cVU (ci := 7) (T := zT7) (N := 4) [.int 20002] zm_V_Text_add ml_Reader_62 rfl (fun _ _ h => B_Text_add g (d - 1) h) (by omega) ⟨Nat.zero_le _, Nat.zero_le _⟩ rfl rfl (by decide) d_Reader_readOr_39 (fun u16 => ?_)
  refine zj_iinc (v := (x6 + 1)) [some (zr g (some this)), some (.int a1), some (.int (x6 + 1))] d_Reader_readOr_42 rfl rfl (by decide) rfl rfl ?_
  refine zj_goto 7 d_Reader_readOr_45 rfl ?_
  exact hr4 u16 (x6 + 1)
def F_Reader_readSum (rec : Nat → zS → Nat → Int32 → Option zS) (u0 : zS) (this : Nat) (a1 : Int32) : Option (zS) := (zob u0 5 (some this)).bind fun q3 => (rec 1 u0 q3 a1).bind fun u2 => zfix2 (fun (r4 : zS → Int32 → Option (zS)) (u5 : zS) (x6 : Int32) => if 160 ≤ x6 then (some u5) else ((zgI u5 5 (some this) 4).bind fun v7 => if v7 = 43 then ((zgI u5 5 (some this) 4).bind fun v8 => zjn1 (fun (j10 : Int32 → Option (zS)) => if v8 = 43 then (j10 20006) else (j10 20007)) (fun (x9 : Int32) => (zob u5 5 (some this)).bind fun q13 => (F_Reader_advance u5 q13 ).bind fun u12 => (zob u12 5 (some this)).bind fun q16 => (rec 1 u12 q16 a1).bind fun u15 => (zgR u15 5 (some this) 2).bind fun v17 => (zob u15 7 v17).bind fun q20 => (F_Text_add u15 q20 x9).bind fun u19 => r4 u19 (x6 + 1))) else ((zgI u5 5 (some this) 4).bind fun v21 => if v21 = 45 then ((zgI u5 5 (some this) 4).bind fun v22 => zjn1 (fun (j24 : Int32 → Option (zS)) => if v22 = 43 then (j24 20006) else (j24 20007)) (fun (x23 : Int32) => (zob u5 5 (some this)).bind fun q27 => (F_Reader_advance u5 q27 ).bind fun u26 => (zob u26 5 (some this)).bind fun q30 => (rec 1 u26 q30 a1).bind fun u29 => (zgR u29 5 (some this) 2).bind fun v31 => (zob u29 7 v31).bind fun q34 => (F_Text_add u29 q34 x23).bind fun u33 => r4 u33 (x6 + 1))) else (some u5)))) zFU u2 0
set_option maxHeartbeats 4000000 in
set_option maxRecDepth 100000 in
theorem B_Reader_readSum (g : zG) (d : Nat) (hdd : 12 ≤ d) {rec : Nat → zS → Nat → Int32 → Option zS} (hrec_readOne : ∀ {u0 : zS} {this : Nat} {a1 : Int32} {o : zS}, rec 0 u0 this a1 = some o → zMt g zy_Reader_readOne d 0 0 [zr g (some this), .int a1] u0 none o) (hrec_readTerm : ∀ {u0 : zS} {this : Nat} {a1 : Int32} {o : zS}, rec 1 u0 this a1 = some o → zMt g zy_Reader_readTerm d 0 0 [zr g (some this), .int a1] u0 none o) (hrec_readSum : ∀ {u0 : zS} {this : Nat} {a1 : Int32} {o : zS}, rec 2 u0 this a1 = some o → zMt g zy_Reader_readSum d 0 0 [zr g (some this), .int a1] u0 none o) (hrec_readNot : ∀ {u0 : zS} {this : Nat} {a1 : Int32} {o : zS}, rec 3 u0 this a1 = some o → zMt g zy_Reader_readNot d 0 0 [zr g (some this), .int a1] u0 none o) (hrec_readAnd : ∀ {u0 : zS} {this : Nat} {a1 : Int32} {o : zS}, rec 4 u0 this a1 = some o → zMt g zy_Reader_readAnd d 0 0 [zr g (some this), .int a1] u0 none o) (hrec_readOr : ∀ {u0 : zS} {this : Nat} {a1 : Int32} {o : zS}, rec 5 u0 this a1 = some o → zMt g zy_Reader_readOr d 0 0 [zr g (some this), .int a1] u0 none o) {u0 : zS} {this : Nat} {a1 : Int32} {o : zS} (h : F_Reader_readSum rec u0 this a1 = some o) : zMt g zy_Reader_readSum (d + 1) 0 0 [zr g (some this), .int a1] u0 none o := by
  refine zMt_of2 (ls := [some (zr g (some this)), some (.int a1), none, none]) 2 (by decide +kernel) (by simp [lg_sl, zr_cat, zcI, zcJ]) (by simp [zal, zr_cat, zcI, zcJ, List.replicate]) ?_
  revert h
  show zJ g zy_Reader_readSum (d + 1) 0 0 zwV o 0 0 0 [some (zr g (some this)), some (.int a1), none, none] [] u0 (F_Reader_readSum rec u0 this a1)
  unfold F_Reader_readSum
  refine zj_aload_n d_Reader_readSum_0 rfl ?_
  refine zj_iload_n d_Reader_readSum_1 rfl ?_
  refine zj_cVU (ci := 5) (T := zT5) (N := 8) [.int a1] zm_V_Reader_readTerm ml_Reader_75 rfl (fun _ _ h => hrec_readTerm h) (Nat.le_refl _) ⟨Nat.zero_le _, Nat.zero_le _⟩ rfl rfl (by decide) d_Reader_readSum_2 (fun u2 => ?_)
  refine zj_iconst 0 d_Reader_readSum_5 (by decide) ?_
  refine zj_istore_n [some (zr g (some this)), some (.int a1), some (.int 0), none] d_Reader_readSum_6 (by decide) rfl rfl ?_
  refine zj_fix2 (fun u5 x6 => [some (zr g (some this)), some (.int a1), some (.int x6), none]) (fun u5 x6 => u5) (fun r4 hr4 u5 x6 => ?_) u2 0
  refine zj_iload_n d_Reader_readSum_7 rfl ?_
  refine zj_sipush 160 d_Reader_readSum_8 (by decide) ?_
  refine zj_icmp_ge 74 d_Reader_readSum_11 rfl (fun _ => ?_) (fun _ => ?_)
  · exact zj_vret rfl rfl rfl rfl d_Reader_readSum_74
  refine zj_aload_n d_Reader_readSum_14 rfl ?_
  refine zj_getI fl_Reader_22 (fun _ _ _ _ => rfl) d_Reader_readSum_15 (fun v7 => ?_)
  refine zj_bipush 43 d_Reader_readSum_18 (by decide) ?_
  refine zj_icmp_eq 32 d_Reader_readSum_20 rfl (fun _ => ?_) (fun _ => ?_)
  · refine zj_aload_n d_Reader_readSum_32 rfl ?_
    refine zj_getI fl_Reader_22 (fun _ _ _ _ => rfl) d_Reader_readSum_33 (fun v8 => ?_)
    refine zj_bipush 43 d_Reader_readSum_36 (by decide) ?_
    refine zj_jn1 (pcj := 50) (fun x9 => [some (zr g (some this)), some (.int a1), some (.int x6), none]) (fun x9 => [.int x9]) (fun x9 => u5) (fun x9 => ?_) (fun j10 hj10 => ?_)
    · refine zj_istore_n [some (zr g (some this)), some (.int a1), some (.int x6), some (.int x9)] d_Reader_readSum_50 (by decide) rfl rfl ?_
      refine zj_aload_n d_Reader_readSum_51 rfl ?_
      refine zj_cVU (ci := 5) (T := zT5) (N := 8) [] zm_V_Reader_advance ml_Reader_43 rfl (fun _ _ h => B_Reader_advance g (d - 9) h) (by omega) ⟨Nat.zero_le _, Nat.zero_le _⟩ rfl rfl (by decide) d_Reader_readSum_52 (fun u12 => ?_)
      refine zj_aload_n d_Reader_readSum_55 rfl ?_
      refine zj_iload_n d_Reader_readSum_56 rfl ?_
      refine zj_cVU (ci := 5) (T := zT5) (N := 8) [.int a1] zm_V_Reader_readTerm ml_Reader_75 rfl (fun _ _ h => hrec_readTerm h) (Nat.le_refl _) ⟨Nat.zero_le _, Nat.zero_le _⟩ rfl rfl (by decide) d_Reader_readSum_57 (fun u15 => ?_)
      refine zj_aload_n d_Reader_readSum_60 rfl ?_
      refine zj_getR fl_Reader_34 (fun _ _ _ _ => rfl) d_Reader_readSum_61 (fun v17 => ?_)
      refine zj_iload_n d_Reader_readSum_64 rfl ?_
      refine zj_cVU (ci := 7) (T := zT7) (N := 4) [.int x9] zm_V_Text_add ml_Reader_62 rfl (fun _ _ h => B_Text_add g (d - 1) h) (by omega) ⟨Nat.zero_le _, Nat.zero_le _⟩ rfl rfl (by decide) d_Reader_readSum_65 (fun u19 => ?_)
      refine zj_iinc (v := (x6 + 1)) [some (zr g (some this)), some (.int a1), some (.int (x6 + 1)), some (.int x9)] d_Reader_readSum_68 rfl rfl (by decide) rfl rfl ?_
      refine zj_goto 7 d_Reader_readSum_71 rfl ?_
      refine zj_cut [some (zr g (some this)), some (.int a1), some (.int (x6 + 1)), none] ⟨rfl, ⟨rfl, ⟨rfl, trivial⟩⟩⟩ ?_
      exact hr4 u19 (x6 + 1)
    refine zj_icmp_ne 47 d_Reader_readSum_38 rfl (fun _ => ?_) (fun _ => ?_)
    · refine zj_sipush 20007 d_Reader_readSum_47 (by decide) ?_
      exact hj10 20007
    refine zj_sipush 20006 d_Reader_readSum_41 (by decide) ?_
    refine zj_goto 50 d_Reader_readSum_44 rfl ?_
    exact hj10 20006
  refine zj_aload_n d_Reader_readSum_23 rfl ?_
  refine zj_getI fl_Reader_22 (fun _ _ _ _ => rfl) d_Reader_readSum_24 (fun v21 => ?_)
  refine zj_bipush 45 d_Reader_readSum_27 (by decide) ?_
  refine zj_icmp_ne 74 d_Reader_readSum_29 rfl (fun _ => ?_) (fun _ => ?_)
  · exact zj_vret rfl rfl rfl rfl d_Reader_readSum_74
  refine zj_aload_n d_Reader_readSum_32 rfl ?_
  refine zj_getI fl_Reader_22 (fun _ _ _ _ => rfl) d_Reader_readSum_33 (fun v22 => ?_)
  refine zj_bipush 43 d_Reader_readSum_36 (by decide) ?_
  refine zj_jn1 (pcj := 50) (fun x23 => [some (zr g (some this)), some (.int a1), some (.int x6), none]) (fun x23 => [.int x23]) (fun x23 => u5) (fun x23 => ?_) (fun j24 hj24 => ?_)
  · refine zj_istore_n [some (zr g (some this)), some (.int a1), some (.int x6), some (.int x23)] d_Reader_readSum_50 (by decide) rfl rfl ?_
    refine zj_aload_n d_Reader_readSum_51 rfl ?_
    refine zj_cVU (ci := 5) (T := zT5) (N := 8) [] zm_V_Reader_advance ml_Reader_43 rfl (fun _ _ h => B_Reader_advance g (d - 9) h) (by omega) ⟨Nat.zero_le _, Nat.zero_le _⟩ rfl rfl (by decide) d_Reader_readSum_52 (fun u26 => ?_)
    refine zj_aload_n d_Reader_readSum_55 rfl ?_
    refine zj_iload_n d_Reader_readSum_56 rfl ?_
    refine zj_cVU (ci := 5) (T := zT5) (N := 8) [.int a1] zm_V_Reader_readTerm ml_Reader_75 rfl (fun _ _ h => hrec_readTerm h) (Nat.le_refl _) ⟨Nat.zero_le _, Nat.zero_le _⟩ rfl rfl (by decide) d_Reader_readSum_57 (fun u29 => ?_)
    refine zj_aload_n d_Reader_readSum_60 rfl ?_
    refine zj_getR fl_Reader_34 (fun _ _ _ _ => rfl) d_Reader_readSum_61 (fun v31 => ?_)
    refine zj_iload_n d_Reader_readSum_64 rfl ?_
    refine zj_cVU (ci := 7) (T := zT7) (N := 4) [.int x23] zm_V_Text_add ml_Reader_62 rfl (fun _ _ h => B_Text_add g (d - 1) h) (by omega) ⟨Nat.zero_le _, Nat.zero_le _⟩ rfl rfl (by decide) d_Reader_readSum_65 (fun u33 => ?_)
    refine zj_iinc (v := (x6 + 1)) [some (zr g (some this)), some (.int a1), some (.int (x6 + 1)), some (.int x23)] d_Reader_readSum_68 rfl rfl (by decide) rfl rfl ?_
    refine zj_goto 7 d_Reader_readSum_71 rfl ?_
    refine zj_cut [some (zr g (some this)), some (.int a1), some (.int (x6 + 1)), none] ⟨rfl, ⟨rfl, ⟨rfl, trivial⟩⟩⟩ ?_
    exact hr4 u33 (x6 + 1)
  refine zj_icmp_ne 47 d_Reader_readSum_38 rfl (fun _ => ?_) (fun _ => ?_)
  · refine zj_sipush 20007 d_Reader_readSum_47 (by decide) ?_
    exact hj24 20007
  refine zj_sipush 20006 d_Reader_readSum_41 (by decide) ?_
  refine zj_goto 50 d_Reader_readSum_44 rfl ?_
  exact hj24 20006
def F_Reader_readTerm (rec : Nat → zS → Nat → Int32 → Option zS) (u0 : zS) (this : Nat) (a1 : Int32) : Option (zS) := (zob u0 5 (some this)).bind fun q3 => (rec 0 u0 q3 a1).bind fun u2 => zfix2 (fun (r4 : zS → Int32 → Option (zS)) (u5 : zS) (x6 : Int32) => if 160 ≤ x6 then (some u5) else ((zgI u5 5 (some this) 4).bind fun v7 => if v7 = 42 then ((zob u5 5 (some this)).bind fun q10 => (F_Reader_advance u5 q10 ).bind fun u9 => (zob u9 5 (some this)).bind fun q13 => (rec 0 u9 q13 a1).bind fun u12 => (zgR u12 5 (some this) 2).bind fun v14 => (zob u12 7 v14).bind fun q17 => (F_Text_add u12 q17 20008).bind fun u16 => r4 u16 (x6 + 1)) else (some u5))) zFU u2 0
set_option maxHeartbeats 4000000 in
set_option maxRecDepth 100000 in
theorem B_Reader_readTerm (g : zG) (d : Nat) (hdd : 12 ≤ d) {rec : Nat → zS → Nat → Int32 → Option zS} (hrec_readOne : ∀ {u0 : zS} {this : Nat} {a1 : Int32} {o : zS}, rec 0 u0 this a1 = some o → zMt g zy_Reader_readOne d 0 0 [zr g (some this), .int a1] u0 none o) (hrec_readTerm : ∀ {u0 : zS} {this : Nat} {a1 : Int32} {o : zS}, rec 1 u0 this a1 = some o → zMt g zy_Reader_readTerm d 0 0 [zr g (some this), .int a1] u0 none o) (hrec_readSum : ∀ {u0 : zS} {this : Nat} {a1 : Int32} {o : zS}, rec 2 u0 this a1 = some o → zMt g zy_Reader_readSum d 0 0 [zr g (some this), .int a1] u0 none o) (hrec_readNot : ∀ {u0 : zS} {this : Nat} {a1 : Int32} {o : zS}, rec 3 u0 this a1 = some o → zMt g zy_Reader_readNot d 0 0 [zr g (some this), .int a1] u0 none o) (hrec_readAnd : ∀ {u0 : zS} {this : Nat} {a1 : Int32} {o : zS}, rec 4 u0 this a1 = some o → zMt g zy_Reader_readAnd d 0 0 [zr g (some this), .int a1] u0 none o) (hrec_readOr : ∀ {u0 : zS} {this : Nat} {a1 : Int32} {o : zS}, rec 5 u0 this a1 = some o → zMt g zy_Reader_readOr d 0 0 [zr g (some this), .int a1] u0 none o) {u0 : zS} {this : Nat} {a1 : Int32} {o : zS} (h : F_Reader_readTerm rec u0 this a1 = some o) : zMt g zy_Reader_readTerm (d + 1) 0 0 [zr g (some this), .int a1] u0 none o := by
  refine zMt_of2 (ls := [some (zr g (some this)), some (.int a1), none]) 1 (by decide +kernel) (by simp [lg_sl, zr_cat, zcI, zcJ]) (by simp [zal, zr_cat, zcI, zcJ, List.replicate]) ?_
  revert h
  show zJ g zy_Reader_readTerm (d + 1) 0 0 zwV o 0 0 0 [some (zr g (some this)), some (.int a1), none] [] u0 (F_Reader_readTerm rec u0 this a1)
  unfold F_Reader_readTerm
  refine zj_aload_n d_Reader_readTerm_0 rfl ?_
  refine zj_iload_n d_Reader_readTerm_1 rfl ?_
  refine zj_cVU (ci := 5) (T := zT5) (N := 8) [.int a1] zm_V_Reader_readOne ml_Reader_78 rfl (fun _ _ h => hrec_readOne h) (Nat.le_refl _) ⟨Nat.zero_le _, Nat.zero_le _⟩ rfl rfl (by decide) d_Reader_readTerm_2 (fun u2 => ?_)
  refine zj_iconst 0 d_Reader_readTerm_5 (by decide) ?_
  refine zj_istore_n [some (zr g (some this)), some (.int a1), some (.int 0)] d_Reader_readTerm_6 (by decide) rfl rfl ?_
  refine zj_fix2 (fun u5 x6 => [some (zr g (some this)), some (.int a1), some (.int x6)]) (fun u5 x6 => u5) (fun r4 hr4 u5 x6 => ?_) u2 0
  refine zj_iload_n d_Reader_readTerm_7 rfl ?_
  refine zj_sipush 160 d_Reader_readTerm_8 (by decide) ?_
  refine zj_icmp_ge 48 d_Reader_readTerm_11 rfl (fun _ => ?_) (fun _ => ?_)
  · exact zj_vret rfl rfl rfl rfl d_Reader_readTerm_48
  refine zj_aload_n d_Reader_readTerm_14 rfl ?_
  refine zj_getI fl_Reader_22 (fun _ _ _ _ => rfl) d_Reader_readTerm_15 (fun v7 => ?_)
  refine zj_bipush 42 d_Reader_readTerm_18 (by decide) ?_
  refine zj_icmp_ne 48 d_Reader_readTerm_20 rfl (fun _ => ?_) (fun _ => ?_)
  · exact zj_vret rfl rfl rfl rfl d_Reader_readTerm_48
  refine zj_aload_n d_Reader_readTerm_23 rfl ?_
  refine zj_cVU (ci := 5) (T := zT5) (N := 8) [] zm_V_Reader_advance ml_Reader_43 rfl (fun _ _ h => B_Reader_advance g (d - 9) h) (by omega) ⟨Nat.zero_le _, Nat.zero_le _⟩ rfl rfl (by decide) d_Reader_readTerm_24 (fun u9 => ?_)
  refine zj_aload_n d_Reader_readTerm_27 rfl ?_
  refine zj_iload_n d_Reader_readTerm_28 rfl ?_
  refine zj_cVU (ci := 5) (T := zT5) (N := 8) [.int a1] zm_V_Reader_readOne ml_Reader_78 rfl (fun _ _ h => hrec_readOne h) (Nat.le_refl _) ⟨Nat.zero_le _, Nat.zero_le _⟩ rfl rfl (by decide) d_Reader_readTerm_29 (fun u12 => ?_)
  refine zj_aload_n d_Reader_readTerm_32 rfl ?_
  refine zj_getR fl_Reader_34 (fun _ _ _ _ => rfl) d_Reader_readTerm_33 (fun v14 => ?_)
  refine zj_sipush 20008 d_Reader_readTerm_36 (by decide) ?_
  refine zj_cVU (ci := 7) (T := zT7) (N := 4) [.int 20008] zm_V_Text_add ml_Reader_62 rfl (fun _ _ h => B_Text_add g (d - 1) h) (by omega) ⟨Nat.zero_le _, Nat.zero_le _⟩ rfl rfl (by decide) d_Reader_readTerm_39 (fun u16 => ?_)
  refine zj_iinc (v := (x6 + 1)) [some (zr g (some this)), some (.int a1), some (.int (x6 + 1))] d_Reader_readTerm_42 rfl rfl (by decide) rfl rfl ?_
  refine zj_goto 7 d_Reader_readTerm_45 rfl ?_
  exact hr4 u16 (x6 + 1)
def F_Reader_readNot (rec : Nat → zS → Nat → Int32 → Option zS) (u0 : zS) (this : Nat) (a1 : Int32) : Option (zS) := (zgI u0 5 (some this) 4).bind fun v1 => if v1 = 11 then ((zob u0 5 (some this)).bind fun q35 => (F_Reader_opens u0 q35 a1).bind <| zk fun v33 u34 => if v33 = 0 then (some u34) else ((zob u34 5 (some this)).bind fun q38 => (rec 3 u34 q38 (a1 + 1)).bind fun u37 => (zgR u37 5 (some this) 2).bind fun v39 => (zob u37 7 v39).bind fun q42 => (F_Text_add u37 q42 20000).bind fun u41 => some u41)) else ((zob u0 5 (some this)).bind fun q4 => (rec 2 u0 q4 a1).bind fun u3 => (zgI u3 5 (some this) 4).bind fun v5 => if v5 = 60 then ((zgI u3 5 (some this) 4).bind fun v6 => zjn1 (fun (j8 : Int32 → Option (zS)) => if v6 = 60 then (j8 20004) else (j8 20005)) (fun (x7 : Int32) => (zob u3 5 (some this)).bind fun q11 => (F_Reader_advance u3 q11 ).bind fun u10 => (zob u10 5 (some this)).bind fun q14 => (rec 2 u10 q14 a1).bind fun u13 => (zgR u13 5 (some this) 2).bind fun v15 => (zob u13 7 v15).bind fun q18 => (F_Text_add u13 q18 x7).bind fun u17 => some u17)) else ((zgI u3 5 (some this) 4).bind fun v19 => if v19 = 61 then ((zgI u3 5 (some this) 4).bind fun v20 => zjn1 (fun (j22 : Int32 → Option (zS)) => if v20 = 60 then (j22 20004) else (j22 20005)) (fun (x21 : Int32) => (zob u3 5 (some this)).bind fun q25 => (F_Reader_advance u3 q25 ).bind fun u24 => (zob u24 5 (some this)).bind fun q28 => (rec 2 u24 q28 a1).bind fun u27 => (zgR u27 5 (some this) 2).bind fun v29 => (zob u27 7 v29).bind fun q32 => (F_Text_add u27 q32 x21).bind fun u31 => some u31)) else (some u3)))
set_option maxHeartbeats 4000000 in
set_option maxRecDepth 100000 in
theorem B_Reader_readNot (g : zG) (d : Nat) (hdd : 12 ≤ d) {rec : Nat → zS → Nat → Int32 → Option zS} (hrec_readOne : ∀ {u0 : zS} {this : Nat} {a1 : Int32} {o : zS}, rec 0 u0 this a1 = some o → zMt g zy_Reader_readOne d 0 0 [zr g (some this), .int a1] u0 none o) (hrec_readTerm : ∀ {u0 : zS} {this : Nat} {a1 : Int32} {o : zS}, rec 1 u0 this a1 = some o → zMt g zy_Reader_readTerm d 0 0 [zr g (some this), .int a1] u0 none o) (hrec_readSum : ∀ {u0 : zS} {this : Nat} {a1 : Int32} {o : zS}, rec 2 u0 this a1 = some o → zMt g zy_Reader_readSum d 0 0 [zr g (some this), .int a1] u0 none o) (hrec_readNot : ∀ {u0 : zS} {this : Nat} {a1 : Int32} {o : zS}, rec 3 u0 this a1 = some o → zMt g zy_Reader_readNot d 0 0 [zr g (some this), .int a1] u0 none o) (hrec_readAnd : ∀ {u0 : zS} {this : Nat} {a1 : Int32} {o : zS}, rec 4 u0 this a1 = some o → zMt g zy_Reader_readAnd d 0 0 [zr g (some this), .int a1] u0 none o) (hrec_readOr : ∀ {u0 : zS} {this : Nat} {a1 : Int32} {o : zS}, rec 5 u0 this a1 = some o → zMt g zy_Reader_readOr d 0 0 [zr g (some this), .int a1] u0 none o) {u0 : zS} {this : Nat} {a1 : Int32} {o : zS} (h : F_Reader_readNot rec u0 this a1 = some o) : zMt g zy_Reader_readNot (d + 1) 0 0 [zr g (some this), .int a1] u0 none o := by
  refine zMt_of2 (ls := [some (zr g (some this)), some (.int a1), none]) 1 (by decide +kernel) (by simp [lg_sl, zr_cat, zcI, zcJ]) (by simp [zal, zr_cat, zcI, zcJ, List.replicate]) ?_
  revert h
  show zJ g zy_Reader_readNot (d + 1) 0 0 zwV o 0 0 0 [some (zr g (some this)), some (.int a1), none] [] u0 (F_Reader_readNot rec u0 this a1)
  unfold F_Reader_readNot
  refine zj_aload_n d_Reader_readNot_0 rfl ?_
  refine zj_getI fl_Reader_22 (fun _ _ _ _ => rfl) d_Reader_readNot_1 (fun v1 => ?_)
  refine zj_bipush 11 d_Reader_readNot_4 (by decide) ?_
  refine zj_icmp_ne 35 d_Reader_readNot_6 rfl (fun _ => ?_) (fun _ => ?_)
  · refine zj_aload_n d_Reader_readNot_35 rfl ?_
    refine zj_iload_n d_Reader_readNot_36 rfl ?_
    refine zj_cVU (ci := 5) (T := zT5) (N := 8) [.int a1] zm_V_Reader_readSum ml_Reader_72 rfl (fun _ _ h => hrec_readSum h) (Nat.le_refl _) ⟨Nat.zero_le _, Nat.zero_le _⟩ rfl rfl (by decide) d_Reader_readNot_37 (fun u3 => ?_)
    refine zj_aload_n d_Reader_readNot_40 rfl ?_
    refine zj_getI fl_Reader_22 (fun _ _ _ _ => rfl) d_Reader_readNot_41 (fun v5 => ?_)
    refine zj_bipush 60 d_Reader_readNot_44 (by decide) ?_
    refine zj_icmp_eq 58 d_Reader_readNot_46 rfl (fun _ => ?_) (fun _ => ?_)
    · refine zj_aload_n d_Reader_readNot_58 rfl ?_
      refine zj_getI fl_Reader_22 (fun _ _ _ _ => rfl) d_Reader_readNot_59 (fun v6 => ?_)
      refine zj_bipush 60 d_Reader_readNot_62 (by decide) ?_
      refine zj_jn1 (pcj := 76) (fun x7 => [some (zr g (some this)), some (.int a1), none]) (fun x7 => [.int x7]) (fun x7 => u3) (fun x7 => ?_) (fun j8 hj8 => ?_)
      · refine zj_istore_n [some (zr g (some this)), some (.int a1), some (.int x7)] d_Reader_readNot_76 (by decide) rfl rfl ?_
        refine zj_aload_n d_Reader_readNot_77 rfl ?_
        refine zj_cVU (ci := 5) (T := zT5) (N := 8) [] zm_V_Reader_advance ml_Reader_43 rfl (fun _ _ h => B_Reader_advance g (d - 9) h) (by omega) ⟨Nat.zero_le _, Nat.zero_le _⟩ rfl rfl (by decide) d_Reader_readNot_78 (fun u10 => ?_)
        refine zj_aload_n d_Reader_readNot_81 rfl ?_
        refine zj_iload_n d_Reader_readNot_82 rfl ?_
        refine zj_cVU (ci := 5) (T := zT5) (N := 8) [.int a1] zm_V_Reader_readSum ml_Reader_72 rfl (fun _ _ h => hrec_readSum h) (Nat.le_refl _) ⟨Nat.zero_le _, Nat.zero_le _⟩ rfl rfl (by decide) d_Reader_readNot_83 (fun u13 => ?_)
        refine zj_aload_n d_Reader_readNot_86 rfl ?_
        refine zj_getR fl_Reader_34 (fun _ _ _ _ => rfl) d_Reader_readNot_87 (fun v15 => ?_)
        refine zj_iload_n d_Reader_readNot_90 rfl ?_
        refine zj_cVU (ci := 7) (T := zT7) (N := 4) [.int x7] zm_V_Text_add ml_Reader_62 rfl (fun _ _ h => B_Text_add g (d - 1) h) (by omega) ⟨Nat.zero_le _, Nat.zero_le _⟩ rfl rfl (by decide) d_Reader_readNot_91 (fun u17 => ?_)
        exact zj_vret rfl rfl rfl rfl d_Reader_readNot_94
      refine zj_icmp_ne 73 d_Reader_readNot_64 rfl (fun _ => ?_) (fun _ => ?_)
      · refine zj_sipush 20005 d_Reader_readNot_73 (by decide) ?_
        exact hj8 20005
      refine zj_sipush 20004 d_Reader_readNot_67 (by decide) ?_
      refine zj_goto 76 d_Reader_readNot_70 rfl ?_
      exact hj8 20004
    refine zj_aload_n d_Reader_readNot_49 rfl ?_
    refine zj_getI fl_Reader_22 (fun _ _ _ _ => rfl) d_Reader_readNot_50 (fun v19 => ?_)
    refine zj_bipush 61 d_Reader_readNot_53 (by decide) ?_
    refine zj_icmp_ne 94 d_Reader_readNot_55 rfl (fun _ => ?_) (fun _ => ?_)
    · exact zj_vret rfl rfl rfl rfl d_Reader_readNot_94
    refine zj_aload_n d_Reader_readNot_58 rfl ?_
    refine zj_getI fl_Reader_22 (fun _ _ _ _ => rfl) d_Reader_readNot_59 (fun v20 => ?_)
    refine zj_bipush 60 d_Reader_readNot_62 (by decide) ?_
    refine zj_jn1 (pcj := 76) (fun x21 => [some (zr g (some this)), some (.int a1), none]) (fun x21 => [.int x21]) (fun x21 => u3) (fun x21 => ?_) (fun j22 hj22 => ?_)
    · refine zj_istore_n [some (zr g (some this)), some (.int a1), some (.int x21)] d_Reader_readNot_76 (by decide) rfl rfl ?_
      refine zj_aload_n d_Reader_readNot_77 rfl ?_
      refine zj_cVU (ci := 5) (T := zT5) (N := 8) [] zm_V_Reader_advance ml_Reader_43 rfl (fun _ _ h => B_Reader_advance g (d - 9) h) (by omega) ⟨Nat.zero_le _, Nat.zero_le _⟩ rfl rfl (by decide) d_Reader_readNot_78 (fun u24 => ?_)
      refine zj_aload_n d_Reader_readNot_81 rfl ?_
      refine zj_iload_n d_Reader_readNot_82 rfl ?_
      refine zj_cVU (ci := 5) (T := zT5) (N := 8) [.int a1] zm_V_Reader_readSum ml_Reader_72 rfl (fun _ _ h => hrec_readSum h) (Nat.le_refl _) ⟨Nat.zero_le _, Nat.zero_le _⟩ rfl rfl (by decide) d_Reader_readNot_83 (fun u27 => ?_)
      refine zj_aload_n d_Reader_readNot_86 rfl ?_
      refine zj_getR fl_Reader_34 (fun _ _ _ _ => rfl) d_Reader_readNot_87 (fun v29 => ?_)
      refine zj_iload_n d_Reader_readNot_90 rfl ?_
      refine zj_cVU (ci := 7) (T := zT7) (N := 4) [.int x21] zm_V_Text_add ml_Reader_62 rfl (fun _ _ h => B_Text_add g (d - 1) h) (by omega) ⟨Nat.zero_le _, Nat.zero_le _⟩ rfl rfl (by decide) d_Reader_readNot_91 (fun u31 => ?_)
      exact zj_vret rfl rfl rfl rfl d_Reader_readNot_94
    refine zj_icmp_ne 73 d_Reader_readNot_64 rfl (fun _ => ?_) (fun _ => ?_)
    · refine zj_sipush 20005 d_Reader_readNot_73 (by decide) ?_
      exact hj22 20005
    refine zj_sipush 20004 d_Reader_readNot_67 (by decide) ?_
    refine zj_goto 76 d_Reader_readNot_70 rfl ?_
    exact hj22 20004
  refine zj_aload_n d_Reader_readNot_9 rfl ?_
  refine zj_iload_n d_Reader_readNot_10 rfl ?_
  refine zj_cVI (ci := 5) (T := zT5) (N := 8) [.int a1] zm_V_Reader_opens ml_Reader_68 rfl (fun _ _ h => B_Reader_opens g (d - 10) h) (by omega) ⟨Nat.zero_le _, Nat.zero_le _⟩ rfl rfl (by decide) d_Reader_readNot_11 (fun v33 u34 => ?_)
  refine zj_if_eq 34 d_Reader_readNot_14 rfl (fun _ => ?_) (fun _ => ?_)
  · exact zj_vret rfl rfl rfl rfl d_Reader_readNot_34
  refine zj_aload_n d_Reader_readNot_17 rfl ?_
  refine zj_iload_n d_Reader_readNot_18 rfl ?_
  refine zj_iconst 1 d_Reader_readNot_19 (by decide) ?_
  refine zj_iadd d_Reader_readNot_20 ?_
  refine zj_cVU (ci := 5) (T := zT5) (N := 8) [.int (a1 + 1)] zm_V_Reader_readNot ml_Reader_65 rfl (fun _ _ h => hrec_readNot h) (Nat.le_refl _) ⟨Nat.zero_le _, Nat.zero_le _⟩ rfl rfl (by decide) d_Reader_readNot_21 (fun u37 => ?_)
  refine zj_aload_n d_Reader_readNot_24 rfl ?_
  refine zj_getR fl_Reader_34 (fun _ _ _ _ => rfl) d_Reader_readNot_25 (fun v39 => ?_)
  refine zj_sipush 20000 d_Reader_readNot_28 (by decide) ?_
  refine zj_cVU (ci := 7) (T := zT7) (N := 4) [.int 20000] zm_V_Text_add ml_Reader_62 rfl (fun _ _ h => B_Text_add g (d - 1) h) (by omega) ⟨Nat.zero_le _, Nat.zero_le _⟩ rfl rfl (by decide) d_Reader_readNot_31 (fun u41 => ?_)
  exact zj_vret rfl rfl rfl rfl d_Reader_readNot_34
def F_Reader_readOne (rec : Nat → zS → Nat → Int32 → Option zS) (u0 : zS) (this : Nat) (a1 : Int32) : Option (zS) := (zgI u0 5 (some this) 4).bind fun v1 => if v1 = 12 then ((zgR u0 5 (some this) 2).bind fun v60 => (zgI u0 5 (some this) 6).bind fun v61 => (zob u0 7 v60).bind fun q64 => (F_Text_add u0 q64 v61).bind fun u63 => (zob u63 5 (some this)).bind fun q67 => (F_Reader_advance u63 q67 ).bind fun u66 => some u66) else ((zgI u0 5 (some this) 4).bind fun v2 => if v2 < 0 then ((zgI u0 5 (some this) 4).bind fun v3 => if v3 = 45 then ((zob u0 5 (some this)).bind fun q19 => (F_Reader_opens u0 q19 a1).bind <| zk fun v17 u18 => if v17 = 0 then (some u18) else ((zob u18 5 (some this)).bind fun q22 => (rec 0 u18 q22 (a1 + 1)).bind fun u21 => (zgR u21 5 (some this) 2).bind fun v23 => (zob u21 7 v23).bind fun q26 => (F_Text_add u21 q26 20001).bind fun u25 => some u25)) else ((zgI u0 5 (some this) 4).bind fun v4 => if v4 = 40 then ((zob u0 5 (some this)).bind fun q10 => (F_Reader_opens u0 q10 a1).bind <| zk fun v8 u9 => if v8 = 0 then (some u9) else ((zob u9 5 (some this)).bind fun q13 => (rec 5 u9 q13 (a1 + 1)).bind fun u12 => (zob u12 5 (some this)).bind fun q16 => (F_Reader_expect u12 q16 41).bind fun u15 => some u15)) else ((zob u0 5 (some this)).bind fun q7 => (F_Reader_refuse u0 q7 ).bind fun u6 => some u6))) else ((zgI u0 5 (some this) 4).bind fun v27 => if 6 ≤ v27 then ((zgI u0 5 (some this) 4).bind fun v28 => if v28 = 45 then ((zob u0 5 (some this)).bind fun q44 => (F_Reader_opens u0 q44 a1).bind <| zk fun v42 u43 => if v42 = 0 then (some u43) else ((zob u43 5 (some this)).bind fun q47 => (rec 0 u43 q47 (a1 + 1)).bind fun u46 => (zgR u46 5 (some this) 2).bind fun v48 => (zob u46 7 v48).bind fun q51 => (F_Text_add u46 q51 20001).bind fun u50 => some u50)) else ((zgI u0 5 (some this) 4).bind fun v29 => if v29 = 40 then ((zob u0 5 (some this)).bind fun q35 => (F_Reader_opens u0 q35 a1).bind <| zk fun v33 u34 => if v33 = 0 then (some u34) else ((zob u34 5 (some this)).bind fun q38 => (rec 5 u34 q38 (a1 + 1)).bind fun u37 => (zob u37 5 (some this)).bind fun q41 => (F_Reader_expect u37 q41 41).bind fun u40 => some u40)) else ((zob u0 5 (some this)).bind fun q32 => (F_Reader_refuse u0 q32 ).bind fun u31 => some u31))) else ((zgR u0 5 (some this) 2).bind fun v52 => (zgI u0 5 (some this) 4).bind fun v53 => (zob u0 7 v52).bind fun q56 => (F_Text_add u0 q56 ((10000 : Int32) + v53)).bind fun u55 => (zob u55 5 (some this)).bind fun q59 => (F_Reader_advance u55 q59 ).bind fun u58 => some u58)))
set_option maxHeartbeats 4000000 in
set_option maxRecDepth 100000 in
theorem B_Reader_readOne (g : zG) (d : Nat) (hdd : 12 ≤ d) {rec : Nat → zS → Nat → Int32 → Option zS} (hrec_readOne : ∀ {u0 : zS} {this : Nat} {a1 : Int32} {o : zS}, rec 0 u0 this a1 = some o → zMt g zy_Reader_readOne d 0 0 [zr g (some this), .int a1] u0 none o) (hrec_readTerm : ∀ {u0 : zS} {this : Nat} {a1 : Int32} {o : zS}, rec 1 u0 this a1 = some o → zMt g zy_Reader_readTerm d 0 0 [zr g (some this), .int a1] u0 none o) (hrec_readSum : ∀ {u0 : zS} {this : Nat} {a1 : Int32} {o : zS}, rec 2 u0 this a1 = some o → zMt g zy_Reader_readSum d 0 0 [zr g (some this), .int a1] u0 none o) (hrec_readNot : ∀ {u0 : zS} {this : Nat} {a1 : Int32} {o : zS}, rec 3 u0 this a1 = some o → zMt g zy_Reader_readNot d 0 0 [zr g (some this), .int a1] u0 none o) (hrec_readAnd : ∀ {u0 : zS} {this : Nat} {a1 : Int32} {o : zS}, rec 4 u0 this a1 = some o → zMt g zy_Reader_readAnd d 0 0 [zr g (some this), .int a1] u0 none o) (hrec_readOr : ∀ {u0 : zS} {this : Nat} {a1 : Int32} {o : zS}, rec 5 u0 this a1 = some o → zMt g zy_Reader_readOr d 0 0 [zr g (some this), .int a1] u0 none o) {u0 : zS} {this : Nat} {a1 : Int32} {o : zS} (h : F_Reader_readOne rec u0 this a1 = some o) : zMt g zy_Reader_readOne (d + 1) 0 0 [zr g (some this), .int a1] u0 none o := by
  refine zMt_of2 (ls := [some (zr g (some this)), some (.int a1)]) 0 (by decide +kernel) (by simp [lg_sl, zr_cat, zcI, zcJ]) (by simp [zal, zr_cat, zcI, zcJ, List.replicate]) ?_
  revert h
  show zJ g zy_Reader_readOne (d + 1) 0 0 zwV o 0 0 0 [some (zr g (some this)), some (.int a1)] [] u0 (F_Reader_readOne rec u0 this a1)
  unfold F_Reader_readOne
  refine zj_aload_n d_Reader_readOne_0 rfl ?_
  refine zj_getI fl_Reader_22 (fun _ _ _ _ => rfl) d_Reader_readOne_1 (fun v1 => ?_)
  refine zj_bipush 12 d_Reader_readOne_4 (by decide) ?_
  refine zj_icmp_ne 27 d_Reader_readOne_6 rfl (fun _ => ?_) (fun _ => ?_)
  · refine zj_aload_n d_Reader_readOne_27 rfl ?_
    refine zj_getI fl_Reader_22 (fun _ _ _ _ => rfl) d_Reader_readOne_28 (fun v2 => ?_)
    refine zj_if_lt 65 d_Reader_readOne_31 rfl (fun _ => ?_) (fun _ => ?_)
    · refine zj_aload_n d_Reader_readOne_65 rfl ?_
      refine zj_getI fl_Reader_22 (fun _ _ _ _ => rfl) d_Reader_readOne_66 (fun v3 => ?_)
      refine zj_bipush 45 d_Reader_readOne_69 (by decide) ?_
      refine zj_icmp_ne 102 d_Reader_readOne_71 rfl (fun _ => ?_) (fun _ => ?_)
      · refine zj_aload_n d_Reader_readOne_102 rfl ?_
        refine zj_getI fl_Reader_22 (fun _ _ _ _ => rfl) d_Reader_readOne_103 (fun v4 => ?_)
        refine zj_bipush 40 d_Reader_readOne_106 (by decide) ?_
        refine zj_icmp_ne 135 d_Reader_readOne_108 rfl (fun _ => ?_) (fun _ => ?_)
        · refine zj_aload_n d_Reader_readOne_135 rfl ?_
          refine zj_cVU (ci := 5) (T := zT5) (N := 8) [] zm_V_Reader_refuse ml_Reader_56 rfl (fun _ _ h => B_Reader_refuse g (d - 1) h) (by omega) ⟨Nat.zero_le _, Nat.zero_le _⟩ rfl rfl (by decide) d_Reader_readOne_136 (fun u6 => ?_)
          exact zj_vret rfl rfl rfl rfl d_Reader_readOne_139
        refine zj_aload_n d_Reader_readOne_111 rfl ?_
        refine zj_iload_n d_Reader_readOne_112 rfl ?_
        refine zj_cVI (ci := 5) (T := zT5) (N := 8) [.int a1] zm_V_Reader_opens ml_Reader_68 rfl (fun _ _ h => B_Reader_opens g (d - 10) h) (by omega) ⟨Nat.zero_le _, Nat.zero_le _⟩ rfl rfl (by decide) d_Reader_readOne_113 (fun v8 u9 => ?_)
        refine zj_if_eq 139 d_Reader_readOne_116 rfl (fun _ => ?_) (fun _ => ?_)
        · exact zj_vret rfl rfl rfl rfl d_Reader_readOne_139
        refine zj_aload_n d_Reader_readOne_119 rfl ?_
        refine zj_iload_n d_Reader_readOne_120 rfl ?_
        refine zj_iconst 1 d_Reader_readOne_121 (by decide) ?_
        refine zj_iadd d_Reader_readOne_122 ?_
        refine zj_cVU (ci := 5) (T := zT5) (N := 8) [.int (a1 + 1)] zm_V_Reader_readOr ml_Reader_50 rfl (fun _ _ h => hrec_readOr h) (Nat.le_refl _) ⟨Nat.zero_le _, Nat.zero_le _⟩ rfl rfl (by decide) d_Reader_readOne_123 (fun u12 => ?_)
        refine zj_aload_n d_Reader_readOne_126 rfl ?_
        refine zj_bipush 41 d_Reader_readOne_127 (by decide) ?_
        refine zj_cVU (ci := 5) (T := zT5) (N := 8) [.int 41] zm_V_Reader_expect ml_Reader_46 rfl (fun _ _ h => B_Reader_expect g (d - 10) h) (by omega) ⟨Nat.zero_le _, Nat.zero_le _⟩ rfl rfl (by decide) d_Reader_readOne_129 (fun u15 => ?_)
        refine zj_goto 139 d_Reader_readOne_132 rfl ?_
        exact zj_vret rfl rfl rfl rfl d_Reader_readOne_139
      refine zj_aload_n d_Reader_readOne_74 rfl ?_
      refine zj_iload_n d_Reader_readOne_75 rfl ?_
      refine zj_cVI (ci := 5) (T := zT5) (N := 8) [.int a1] zm_V_Reader_opens ml_Reader_68 rfl (fun _ _ h => B_Reader_opens g (d - 10) h) (by omega) ⟨Nat.zero_le _, Nat.zero_le _⟩ rfl rfl (by decide) d_Reader_readOne_76 (fun v17 u18 => ?_)
      refine zj_if_eq 139 d_Reader_readOne_79 rfl (fun _ => ?_) (fun _ => ?_)
      · exact zj_vret rfl rfl rfl rfl d_Reader_readOne_139
      refine zj_aload_n d_Reader_readOne_82 rfl ?_
      refine zj_iload_n d_Reader_readOne_83 rfl ?_
      refine zj_iconst 1 d_Reader_readOne_84 (by decide) ?_
      refine zj_iadd d_Reader_readOne_85 ?_
      refine zj_cVU (ci := 5) (T := zT5) (N := 8) [.int (a1 + 1)] zm_V_Reader_readOne ml_Reader_78 rfl (fun _ _ h => hrec_readOne h) (Nat.le_refl _) ⟨Nat.zero_le _, Nat.zero_le _⟩ rfl rfl (by decide) d_Reader_readOne_86 (fun u21 => ?_)
      refine zj_aload_n d_Reader_readOne_89 rfl ?_
      refine zj_getR fl_Reader_34 (fun _ _ _ _ => rfl) d_Reader_readOne_90 (fun v23 => ?_)
      refine zj_sipush 20001 d_Reader_readOne_93 (by decide) ?_
      refine zj_cVU (ci := 7) (T := zT7) (N := 4) [.int 20001] zm_V_Text_add ml_Reader_62 rfl (fun _ _ h => B_Text_add g (d - 1) h) (by omega) ⟨Nat.zero_le _, Nat.zero_le _⟩ rfl rfl (by decide) d_Reader_readOne_96 (fun u25 => ?_)
      refine zj_goto 139 d_Reader_readOne_99 rfl ?_
      exact zj_vret rfl rfl rfl rfl d_Reader_readOne_139
    refine zj_aload_n d_Reader_readOne_34 rfl ?_
    refine zj_getI fl_Reader_22 (fun _ _ _ _ => rfl) d_Reader_readOne_35 (fun v27 => ?_)
    refine zj_bipush 6 d_Reader_readOne_38 (by decide) ?_
    refine zj_icmp_ge 65 d_Reader_readOne_40 rfl (fun _ => ?_) (fun _ => ?_)
    · refine zj_aload_n d_Reader_readOne_65 rfl ?_
      refine zj_getI fl_Reader_22 (fun _ _ _ _ => rfl) d_Reader_readOne_66 (fun v28 => ?_)
      refine zj_bipush 45 d_Reader_readOne_69 (by decide) ?_
      refine zj_icmp_ne 102 d_Reader_readOne_71 rfl (fun _ => ?_) (fun _ => ?_)
      · refine zj_aload_n d_Reader_readOne_102 rfl ?_
        refine zj_getI fl_Reader_22 (fun _ _ _ _ => rfl) d_Reader_readOne_103 (fun v29 => ?_)
        refine zj_bipush 40 d_Reader_readOne_106 (by decide) ?_
        refine zj_icmp_ne 135 d_Reader_readOne_108 rfl (fun _ => ?_) (fun _ => ?_)
        · refine zj_aload_n d_Reader_readOne_135 rfl ?_
          refine zj_cVU (ci := 5) (T := zT5) (N := 8) [] zm_V_Reader_refuse ml_Reader_56 rfl (fun _ _ h => B_Reader_refuse g (d - 1) h) (by omega) ⟨Nat.zero_le _, Nat.zero_le _⟩ rfl rfl (by decide) d_Reader_readOne_136 (fun u31 => ?_)
          exact zj_vret rfl rfl rfl rfl d_Reader_readOne_139
        refine zj_aload_n d_Reader_readOne_111 rfl ?_
        refine zj_iload_n d_Reader_readOne_112 rfl ?_
        refine zj_cVI (ci := 5) (T := zT5) (N := 8) [.int a1] zm_V_Reader_opens ml_Reader_68 rfl (fun _ _ h => B_Reader_opens g (d - 10) h) (by omega) ⟨Nat.zero_le _, Nat.zero_le _⟩ rfl rfl (by decide) d_Reader_readOne_113 (fun v33 u34 => ?_)
        refine zj_if_eq 139 d_Reader_readOne_116 rfl (fun _ => ?_) (fun _ => ?_)
        · exact zj_vret rfl rfl rfl rfl d_Reader_readOne_139
        refine zj_aload_n d_Reader_readOne_119 rfl ?_
        refine zj_iload_n d_Reader_readOne_120 rfl ?_
        refine zj_iconst 1 d_Reader_readOne_121 (by decide) ?_
        refine zj_iadd d_Reader_readOne_122 ?_
        refine zj_cVU (ci := 5) (T := zT5) (N := 8) [.int (a1 + 1)] zm_V_Reader_readOr ml_Reader_50 rfl (fun _ _ h => hrec_readOr h) (Nat.le_refl _) ⟨Nat.zero_le _, Nat.zero_le _⟩ rfl rfl (by decide) d_Reader_readOne_123 (fun u37 => ?_)
        refine zj_aload_n d_Reader_readOne_126 rfl ?_
        refine zj_bipush 41 d_Reader_readOne_127 (by decide) ?_
        refine zj_cVU (ci := 5) (T := zT5) (N := 8) [.int 41] zm_V_Reader_expect ml_Reader_46 rfl (fun _ _ h => B_Reader_expect g (d - 10) h) (by omega) ⟨Nat.zero_le _, Nat.zero_le _⟩ rfl rfl (by decide) d_Reader_readOne_129 (fun u40 => ?_)
        refine zj_goto 139 d_Reader_readOne_132 rfl ?_
        exact zj_vret rfl rfl rfl rfl d_Reader_readOne_139
      refine zj_aload_n d_Reader_readOne_74 rfl ?_
      refine zj_iload_n d_Reader_readOne_75 rfl ?_
      refine zj_cVI (ci := 5) (T := zT5) (N := 8) [.int a1] zm_V_Reader_opens ml_Reader_68 rfl (fun _ _ h => B_Reader_opens g (d - 10) h) (by omega) ⟨Nat.zero_le _, Nat.zero_le _⟩ rfl rfl (by decide) d_Reader_readOne_76 (fun v42 u43 => ?_)
      refine zj_if_eq 139 d_Reader_readOne_79 rfl (fun _ => ?_) (fun _ => ?_)
      · exact zj_vret rfl rfl rfl rfl d_Reader_readOne_139
      refine zj_aload_n d_Reader_readOne_82 rfl ?_
      refine zj_iload_n d_Reader_readOne_83 rfl ?_
      refine zj_iconst 1 d_Reader_readOne_84 (by decide) ?_
      refine zj_iadd d_Reader_readOne_85 ?_
      refine zj_cVU (ci := 5) (T := zT5) (N := 8) [.int (a1 + 1)] zm_V_Reader_readOne ml_Reader_78 rfl (fun _ _ h => hrec_readOne h) (Nat.le_refl _) ⟨Nat.zero_le _, Nat.zero_le _⟩ rfl rfl (by decide) d_Reader_readOne_86 (fun u46 => ?_)
      refine zj_aload_n d_Reader_readOne_89 rfl ?_
      refine zj_getR fl_Reader_34 (fun _ _ _ _ => rfl) d_Reader_readOne_90 (fun v48 => ?_)
      refine zj_sipush 20001 d_Reader_readOne_93 (by decide) ?_
      refine zj_cVU (ci := 7) (T := zT7) (N := 4) [.int 20001] zm_V_Text_add ml_Reader_62 rfl (fun _ _ h => B_Text_add g (d - 1) h) (by omega) ⟨Nat.zero_le _, Nat.zero_le _⟩ rfl rfl (by decide) d_Reader_readOne_96 (fun u50 => ?_)
      refine zj_goto 139 d_Reader_readOne_99 rfl ?_
      exact zj_vret rfl rfl rfl rfl d_Reader_readOne_139
    refine zj_aload_n d_Reader_readOne_43 rfl ?_
    refine zj_getR fl_Reader_34 (fun _ _ _ _ => rfl) d_Reader_readOne_44 (fun v52 => ?_)
    refine zj_sipush 10000 d_Reader_readOne_47 (by decide) ?_
    refine zj_aload_n d_Reader_readOne_50 rfl ?_
    refine zj_getI fl_Reader_22 (fun _ _ _ _ => rfl) d_Reader_readOne_51 (fun v53 => ?_)
    refine zj_iadd d_Reader_readOne_54 ?_
    refine zj_cVU (ci := 7) (T := zT7) (N := 4) [.int ((10000 : Int32) + v53)] zm_V_Text_add ml_Reader_62 rfl (fun _ _ h => B_Text_add g (d - 1) h) (by omega) ⟨Nat.zero_le _, Nat.zero_le _⟩ rfl rfl (by decide) d_Reader_readOne_55 (fun u55 => ?_)
    refine zj_aload_n d_Reader_readOne_58 rfl ?_
    refine zj_cVU (ci := 5) (T := zT5) (N := 8) [] zm_V_Reader_advance ml_Reader_43 rfl (fun _ _ h => B_Reader_advance g (d - 9) h) (by omega) ⟨Nat.zero_le _, Nat.zero_le _⟩ rfl rfl (by decide) d_Reader_readOne_59 (fun u58 => ?_)
    refine zj_goto 139 d_Reader_readOne_62 rfl ?_
    exact zj_vret rfl rfl rfl rfl d_Reader_readOne_139
  refine zj_aload_n d_Reader_readOne_9 rfl ?_
  refine zj_getR fl_Reader_34 (fun _ _ _ _ => rfl) d_Reader_readOne_10 (fun v60 => ?_)
  refine zj_aload_n d_Reader_readOne_13 rfl ?_
  refine zj_getI fl_Reader_28 (fun _ _ _ _ => rfl) d_Reader_readOne_14 (fun v61 => ?_)
  refine zj_cVU (ci := 7) (T := zT7) (N := 4) [.int v61] zm_V_Text_add ml_Reader_62 rfl (fun _ _ h => B_Text_add g (d - 1) h) (by omega) ⟨Nat.zero_le _, Nat.zero_le _⟩ rfl rfl (by decide) d_Reader_readOne_17 (fun u63 => ?_)
  refine zj_aload_n d_Reader_readOne_20 rfl ?_
  refine zj_cVU (ci := 5) (T := zT5) (N := 8) [] zm_V_Reader_advance ml_Reader_43 rfl (fun _ _ h => B_Reader_advance g (d - 9) h) (by omega) ⟨Nat.zero_le _, Nat.zero_le _⟩ rfl rfl (by decide) d_Reader_readOne_21 (fun u66 => ?_)
  refine zj_goto 139 d_Reader_readOne_24 rfl ?_
  exact zj_vret rfl rfl rfl rfl d_Reader_readOne_139
def GR : Nat → Nat → zS → Nat → Int32 → Option zS
  | 0 => fun _ _ _ _ => none
  | n + 1 => fun tag => match tag with
    | 0 => F_Reader_readOne (GR n)
    | 1 => F_Reader_readTerm (GR n)
    | 2 => F_Reader_readSum (GR n)
    | 3 => F_Reader_readNot (GR n)
    | 4 => F_Reader_readAnd (GR n)
    | 5 => F_Reader_readOr (GR n)
    | _ => fun _ _ _ => none
theorem BG_all_GR (g : zG) (d : Nat) (hd : 12 ≤ d) : ∀ n : Nat, (∀ {u0 : zS} {this : Nat} {a1 : Int32} {o : zS}, GR n 0 u0 this a1 = some o → zMt g zy_Reader_readOne (n + d) 0 0 [zr g (some this), .int a1] u0 none o) ∧ (∀ {u0 : zS} {this : Nat} {a1 : Int32} {o : zS}, GR n 1 u0 this a1 = some o → zMt g zy_Reader_readTerm (n + d) 0 0 [zr g (some this), .int a1] u0 none o) ∧ (∀ {u0 : zS} {this : Nat} {a1 : Int32} {o : zS}, GR n 2 u0 this a1 = some o → zMt g zy_Reader_readSum (n + d) 0 0 [zr g (some this), .int a1] u0 none o) ∧ (∀ {u0 : zS} {this : Nat} {a1 : Int32} {o : zS}, GR n 3 u0 this a1 = some o → zMt g zy_Reader_readNot (n + d) 0 0 [zr g (some this), .int a1] u0 none o) ∧ (∀ {u0 : zS} {this : Nat} {a1 : Int32} {o : zS}, GR n 4 u0 this a1 = some o → zMt g zy_Reader_readAnd (n + d) 0 0 [zr g (some this), .int a1] u0 none o) ∧ (∀ {u0 : zS} {this : Nat} {a1 : Int32} {o : zS}, GR n 5 u0 this a1 = some o → zMt g zy_Reader_readOr (n + d) 0 0 [zr g (some this), .int a1] u0 none o)
  | 0 => ⟨(fun h => nomatch h), (fun h => nomatch h), (fun h => nomatch h), (fun h => nomatch h), (fun h => nomatch h), (fun h => nomatch h)⟩
  | n + 1 => by
    obtain ⟨h0, h1, h2, h3, h4, h5⟩ := BG_all_GR g d hd n
    rw [show n + 1 + d = n + d + 1 by omega]
    exact ⟨fun h => B_Reader_readOne g (n + d) (by omega) h0 h1 h2 h3 h4 h5 h, fun h => B_Reader_readTerm g (n + d) (by omega) h0 h1 h2 h3 h4 h5 h, fun h => B_Reader_readSum g (n + d) (by omega) h0 h1 h2 h3 h4 h5 h, fun h => B_Reader_readNot g (n + d) (by omega) h0 h1 h2 h3 h4 h5 h, fun h => B_Reader_readAnd g (n + d) (by omega) h0 h1 h2 h3 h4 h5 h, fun h => B_Reader_readOr g (n + d) (by omega) h0 h1 h2 h3 h4 h5 h⟩
theorem BG_Reader_readOne (g : zG) (d : Nat) {u0 : zS} {this : Nat} {a1 : Int32} {o : zS} (h : GR 60 0 u0 this a1 = some o) : zMt g zy_Reader_readOne (d + 75) 0 0 [zr g (some this), .int a1] u0 none o := by
  rw [show d + 75 = 60 + (d + 15) by omega]
  exact (BG_all_GR g (d + 15) (by omega) 60).1 h
theorem BG_Reader_readTerm (g : zG) (d : Nat) {u0 : zS} {this : Nat} {a1 : Int32} {o : zS} (h : GR 60 1 u0 this a1 = some o) : zMt g zy_Reader_readTerm (d + 75) 0 0 [zr g (some this), .int a1] u0 none o := by
  rw [show d + 75 = 60 + (d + 15) by omega]
  exact (BG_all_GR g (d + 15) (by omega) 60).2.1 h
theorem BG_Reader_readSum (g : zG) (d : Nat) {u0 : zS} {this : Nat} {a1 : Int32} {o : zS} (h : GR 60 2 u0 this a1 = some o) : zMt g zy_Reader_readSum (d + 75) 0 0 [zr g (some this), .int a1] u0 none o := by
  rw [show d + 75 = 60 + (d + 15) by omega]
  exact (BG_all_GR g (d + 15) (by omega) 60).2.2.1 h
theorem BG_Reader_readNot (g : zG) (d : Nat) {u0 : zS} {this : Nat} {a1 : Int32} {o : zS} (h : GR 60 3 u0 this a1 = some o) : zMt g zy_Reader_readNot (d + 75) 0 0 [zr g (some this), .int a1] u0 none o := by
  rw [show d + 75 = 60 + (d + 15) by omega]
  exact (BG_all_GR g (d + 15) (by omega) 60).2.2.2.1 h
theorem BG_Reader_readAnd (g : zG) (d : Nat) {u0 : zS} {this : Nat} {a1 : Int32} {o : zS} (h : GR 60 4 u0 this a1 = some o) : zMt g zy_Reader_readAnd (d + 75) 0 0 [zr g (some this), .int a1] u0 none o := by
  rw [show d + 75 = 60 + (d + 15) by omega]
  exact (BG_all_GR g (d + 15) (by omega) 60).2.2.2.2.1 h
theorem BG_Reader_readOr (g : zG) (d : Nat) {u0 : zS} {this : Nat} {a1 : Int32} {o : zS} (h : GR 60 5 u0 this a1 = some o) : zMt g zy_Reader_readOr (d + 75) 0 0 [zr g (some this), .int a1] u0 none o := by
  rw [show d + 75 = 60 + (d + 15) by omega]
  exact (BG_all_GR g (d + 15) (by omega) 60).2.2.2.2.2 h
def F_M_findBest (u0 : zS) (this : Nat) (a1 : Int32) : Option (Int32 × zS) := (zpZ u0 9 (some this) 37 1).bind fun u1 => (zpI u1 9 (some this) 36 (-1)).bind fun u2 => (zob u2 9 (some this)).bind fun q5 => (GF 10  u2 q5 0 a1 0).bind <| zk fun v3 u4 => zrz v3 (v3, u4)
set_option maxHeartbeats 4000000 in
set_option maxRecDepth 100000 in
theorem B_M_findBest (g : zG) (d : Nat) {u0 : zS} {this : Nat} {a1 : Int32} {o : Int32 × zS} (h : F_M_findBest u0 this a1 = some o) : zMt g zy_M_findBest (d + 13) 0 0 [zr g (some this), .int a1] u0 (some (.int o.1)) o.2 := by
  refine zMt_of2 (ls := [some (zr g (some this)), some (.int a1)]) 0 (by decide +kernel) (by simp [lg_sl, zr_cat, zcI, zcJ]) (by simp [zal, zr_cat, zcI, zcJ, List.replicate]) ?_
  revert h
  show zJ g zy_M_findBest (d + 13) 0 0 zwI o 0 0 0 [some (zr g (some this)), some (.int a1)] [] u0 (F_M_findBest u0 this a1)
  unfold F_M_findBest
  refine zj_aload_n d_M_findBest_0 rfl ?_
  refine zj_iconst 1 d_M_findBest_1 (by decide) ?_
  refine zj_putZ fl_M_266 d_M_findBest_2 (fun u1 => ?_)
  refine zj_aload_n d_M_findBest_5 rfl ?_
  refine zj_iconst (-1) d_M_findBest_6 (by decide) ?_
  refine zj_putI fl_M_269 (fun _ _ _ _ => rfl) ⟨rfl, rfl⟩ d_M_findBest_7 (fun u2 => ?_)
  refine zj_aload_n d_M_findBest_10 rfl ?_
  refine zj_iconst 0 d_M_findBest_11 (by decide) ?_
  refine zj_iload_n d_M_findBest_12 rfl ?_
  refine zj_iconst 0 d_M_findBest_13 (by decide) ?_
  refine zj_cVI (ci := 9) (T := zT9) (N := 53) [.int 0, .int a1, .int 0] zm_V_M_fills ml_M_272 rfl (fun _ _ h => BG_M_fills g (d) h) (Nat.le_refl _) ⟨Nat.zero_le _, Nat.zero_le _⟩ rfl rfl (by decide) d_M_findBest_14 (fun v3 u4 => ?_)
  exact zj_zret rfl rfl rfl rfl d_M_findBest_17
def F_M_isFilled (u0 : zS) (this : Nat) (a1 : Int32) : Option (Int32 × zS) := (zpZ u0 9 (some this) 37 0).bind fun u1 => (zob u1 9 (some this)).bind fun q4 => (GF 10  u1 q4 0 a1 0).bind <| zk fun v2 u3 => zrz v2 (v2, u3)
set_option maxHeartbeats 4000000 in
set_option maxRecDepth 100000 in
theorem B_M_isFilled (g : zG) (d : Nat) {u0 : zS} {this : Nat} {a1 : Int32} {o : Int32 × zS} (h : F_M_isFilled u0 this a1 = some o) : zMt g zy_M_isFilled (d + 13) 0 0 [zr g (some this), .int a1] u0 (some (.int o.1)) o.2 := by
  refine zMt_of2 (ls := [some (zr g (some this)), some (.int a1)]) 0 (by decide +kernel) (by simp [lg_sl, zr_cat, zcI, zcJ]) (by simp [zal, zr_cat, zcI, zcJ, List.replicate]) ?_
  revert h
  show zJ g zy_M_isFilled (d + 13) 0 0 zwI o 0 0 0 [some (zr g (some this)), some (.int a1)] [] u0 (F_M_isFilled u0 this a1)
  unfold F_M_isFilled
  refine zj_aload_n d_M_isFilled_0 rfl ?_
  refine zj_iconst 0 d_M_isFilled_1 (by decide) ?_
  refine zj_putZ fl_M_266 d_M_isFilled_2 (fun u1 => ?_)
  refine zj_aload_n d_M_isFilled_5 rfl ?_
  refine zj_iconst 0 d_M_isFilled_6 (by decide) ?_
  refine zj_iload_n d_M_isFilled_7 rfl ?_
  refine zj_iconst 0 d_M_isFilled_8 (by decide) ?_
  refine zj_cVI (ci := 9) (T := zT9) (N := 53) [.int 0, .int a1, .int 0] zm_V_M_fills ml_M_272 rfl (fun _ _ h => BG_M_fills g (d) h) (Nat.le_refl _) ⟨Nat.zero_le _, Nat.zero_le _⟩ rfl rfl (by decide) d_M_isFilled_9 (fun v2 u3 => ?_)
  exact zj_zret rfl rfl rfl rfl d_M_isFilled_12
def F_M_done (u0 : zS) (this : Nat) (a1 : Int32) : Option (Int32 × zS) := (zob u0 9 (some this)).bind fun q2 => (F_M_areAway u0 q2 a1).bind fun v1 => if v1 = 0 then (some ((-2), u0)) else ((zob u0 9 (some this)).bind fun q5 => (F_M_findCan u0 q5 ).bind fun u4 => (zob u4 9 (some this)).bind fun q8 => (F_M_findComes u4 q8 ).bind fun u7 => (zob u7 9 (some this)).bind fun q11 => (F_M_findBest u7 q11 a1).bind <| zk fun v9 u10 => if v9 = 0 then (some ((-3), u10)) else (zfix3 (fun (r12 : zS → Int32 → Int32 → Option (Int32 × zS)) (u13 : zS) (x14 : Int32) (x15 : Int32) => (zgI u13 9 (some this) 1).bind fun v16 => if v16 ≤ x15 then (some (x14, u13)) else ((zgR u13 9 (some this) 35).bind fun v17 => (zaI u13 .int v17 x15).bind fun v18 => if 0 ≤ v18 then ((zgR u13 9 (some this) 12).bind fun v19 => (zaI u13 .boolean v19 (((6 : Int32) * v18) + x15)).bind fun v20 => zjn1 (fun (j22 : zS → Option (Int32 × zS)) => if v20 = 0 then (j22 u13) else ((zgR u13 9 (some this) 11).bind fun v29 => (zgI u13 9 (some this) 10).bind fun v30 => (zsI u13 v29 (((6 : Int32) * v18) + x15) v30).bind fun u31 => j22 u31)) (fun (u21 : zS) => (zgR u21 9 (some this) 9).bind fun v23 => (zaI u21 .int v23 v18).bind fun v24 => (zgR u21 9 (some this) 6).bind fun v25 => (zaI u21 .int v25 v18).bind fun v26 => if v26 = x15 then ((zsI u21 v23 v18 (v24 + 0)).bind fun u28 => r12 u28 (x14 + 1) (x15 + 1)) else ((zsI u21 v23 v18 (v24 + 1)).bind fun u27 => r12 u27 (x14 + 1) (x15 + 1)))) else (r12 u13 x14 (x15 + 1)))) zFU u10 0 0))
set_option maxHeartbeats 4000000 in
set_option maxRecDepth 100000 in
theorem B_M_done (g : zG) (d : Nat) {u0 : zS} {this : Nat} {a1 : Int32} {o : Int32 × zS} (h : F_M_done u0 this a1 = some o) : zMt g zy_M_done (d + 14) 0 0 [zr g (some this), .int a1] u0 (some (.int o.1)) o.2 := by
  refine zMt_of2 (ls := [some (zr g (some this)), some (.int a1), none, none, none]) 3 (by decide +kernel) (by simp [lg_sl, zr_cat, zcI, zcJ]) (by simp [zal, zr_cat, zcI, zcJ, List.replicate]) ?_
  revert h
  show zJ g zy_M_done (d + 14) 0 0 zwI o 0 0 0 [some (zr g (some this)), some (.int a1), none, none, none] [] u0 (F_M_done u0 this a1)
  unfold F_M_done
  refine zj_aload_n d_M_done_0 rfl ?_
  refine zj_iload_n d_M_done_1 rfl ?_
  refine zj_cVIp (ci := 9) (T := zT9) (N := 53) [.int a1] zm_V_M_areAway ml_M_276 rfl (fun _ _ h => B_M_areAway g (d + 12) h) (Nat.le_refl _) ⟨Nat.zero_le _, Nat.zero_le _⟩ rfl rfl (by decide) d_M_done_2 (fun v1 => ?_)
  refine zj_if_ne 11 d_M_done_5 rfl (fun _ => ?_) (fun _ => ?_)
  · refine zj_aload_n d_M_done_11 rfl ?_
    refine zj_cVU (ci := 9) (T := zT9) (N := 53) [] zm_V_M_findCan ml_M_279 rfl (fun _ _ h => B_M_findCan g (d + 10) h) (Nat.le_refl _) ⟨Nat.zero_le _, Nat.zero_le _⟩ rfl rfl (by decide) d_M_done_12 (fun u4 => ?_)
    refine zj_aload_n d_M_done_15 rfl ?_
    refine zj_cVU (ci := 9) (T := zT9) (N := 53) [] zm_V_M_findComes ml_M_282 rfl (fun _ _ h => B_M_findComes g (d + 9) h) (Nat.le_refl _) ⟨Nat.zero_le _, Nat.zero_le _⟩ rfl rfl (by decide) d_M_done_16 (fun u7 => ?_)
    refine zj_aload_n d_M_done_19 rfl ?_
    refine zj_iload_n d_M_done_20 rfl ?_
    refine zj_cVI (ci := 9) (T := zT9) (N := 53) [.int a1] zm_V_M_findBest ml_M_285 rfl (fun _ _ h => B_M_findBest g (d) h) (Nat.le_refl _) ⟨Nat.zero_le _, Nat.zero_le _⟩ rfl rfl (by decide) d_M_done_21 (fun v9 u10 => ?_)
    refine zj_if_ne 30 d_M_done_24 rfl (fun _ => ?_) (fun _ => ?_)
    · refine zj_iconst 0 d_M_done_30 (by decide) ?_
      refine zj_istore_n [some (zr g (some this)), some (.int a1), some (.int 0), none, none] d_M_done_31 (by decide) rfl rfl ?_
      refine zj_iconst 0 d_M_done_32 (by decide) ?_
      refine zj_istore_n [some (zr g (some this)), some (.int a1), some (.int 0), some (.int 0), none] d_M_done_33 (by decide) rfl rfl ?_
      refine zj_cut [some (zr g (some this)), none, some (.int 0), some (.int 0), none] ⟨rfl, ⟨rfl, ⟨rfl, trivial⟩⟩⟩ ?_
      refine zj_fix3 (fun u13 x14 x15 => [some (zr g (some this)), none, some (.int x14), some (.int x15), none]) (fun u13 x14 x15 => u13) (fun r12 hr12 u13 x14 x15 => ?_) u10 0 0
      refine zj_iload_n d_M_done_34 rfl ?_
      refine zj_aload_n d_M_done_35 rfl ?_
      refine zj_getI fl_M_106 (fun _ _ _ _ => rfl) d_M_done_36 (fun v16 => ?_)
      refine zj_icmp_ge 124 d_M_done_39 rfl (fun _ => ?_) (fun _ => ?_)
      · refine zj_iload_n d_M_done_124 rfl ?_
        exact zj_iret rfl rfl rfl rfl d_M_done_125
      refine zj_aload_n d_M_done_42 rfl ?_
      refine zj_getR fl_M_76 (fun _ _ _ _ => rfl) d_M_done_43 (fun v17 => ?_)
      refine zj_iload_n d_M_done_46 rfl ?_
      refine zj_iaload d_M_done_47 (fun v18 => ?_)
      refine zj_istore [some (zr g (some this)), none, some (.int x14), some (.int x15), some (.int v18)] d_M_done_48 (by decide) rfl rfl ?_
      refine zj_iload d_M_done_50 rfl ?_
      refine zj_if_ge 58 d_M_done_52 rfl (fun _ => ?_) (fun _ => ?_)
      · refine zj_iinc (v := (x14 + 1)) [some (zr g (some this)), none, some (.int (x14 + 1)), some (.int x15), some (.int v18)] d_M_done_58 rfl rfl (by decide) rfl rfl ?_
        refine zj_aload_n d_M_done_61 rfl ?_
        refine zj_getR fl_M_39 (fun _ _ _ _ => rfl) d_M_done_62 (fun v19 => ?_)
        refine zj_bipush 6 d_M_done_65 (by decide) ?_
        refine zj_iload d_M_done_67 rfl ?_
        refine zj_imul d_M_done_69 ?_
        refine zj_iload_n d_M_done_70 rfl ?_
        refine zj_iadd d_M_done_71 ?_
        refine zj_zaload d_M_done_72 (fun v20 => ?_)
        refine zj_jn1 (pcj := 92) (fun u21 => [some (zr g (some this)), none, some (.int (x14 + 1)), some (.int x15), some (.int v18)]) (fun u21 => []) (fun u21 => u21) (fun u21 => ?_) (fun j22 hj22 => ?_)
        · refine zj_aload_n d_M_done_92 rfl ?_
          refine zj_getR fl_M_33 (fun _ _ _ _ => rfl) d_M_done_93 (fun v23 => ?_)
          refine zj_iload d_M_done_96 rfl ?_
          refine zj_dup2 d_M_done_98 rfl (zr_cat _ _) ?_
          refine zj_iaload d_M_done_99 (fun v24 => ?_)
          refine zj_aload_n d_M_done_100 rfl ?_
          refine zj_getR fl_M_24 (fun _ _ _ _ => rfl) d_M_done_101 (fun v25 => ?_)
          refine zj_iload d_M_done_104 rfl ?_
          refine zj_iaload d_M_done_106 (fun v26 => ?_)
          refine zj_iload_n d_M_done_107 rfl ?_
          refine zj_icmp_ne 115 d_M_done_108 rfl (fun _ => ?_) (fun _ => ?_)
          · refine zj_iconst 1 d_M_done_115 (by decide) ?_
            refine zj_iadd d_M_done_116 ?_
            refine zj_iastore d_M_done_117 (fun u27 => ?_)
            refine zj_iinc (v := (x15 + 1)) [some (zr g (some this)), none, some (.int (x14 + 1)), some (.int (x15 + 1)), some (.int v18)] d_M_done_118 rfl rfl (by decide) rfl rfl ?_
            refine zj_goto 34 d_M_done_121 rfl ?_
            refine zj_cut [some (zr g (some this)), none, some (.int (x14 + 1)), some (.int (x15 + 1)), none] ⟨rfl, ⟨rfl, ⟨rfl, trivial⟩⟩⟩ ?_
            exact hr12 u27 (x14 + 1) (x15 + 1)
          refine zj_iconst 0 d_M_done_111 (by decide) ?_
          refine zj_goto 116 d_M_done_112 rfl ?_
          refine zj_iadd d_M_done_116 ?_
          refine zj_iastore d_M_done_117 (fun u28 => ?_)
          refine zj_iinc (v := (x15 + 1)) [some (zr g (some this)), none, some (.int (x14 + 1)), some (.int (x15 + 1)), some (.int v18)] d_M_done_118 rfl rfl (by decide) rfl rfl ?_
          refine zj_goto 34 d_M_done_121 rfl ?_
          refine zj_cut [some (zr g (some this)), none, some (.int (x14 + 1)), some (.int (x15 + 1)), none] ⟨rfl, ⟨rfl, ⟨rfl, trivial⟩⟩⟩ ?_
          exact hr12 u28 (x14 + 1) (x15 + 1)
        refine zj_if_eq 92 d_M_done_73 rfl (fun _ => ?_) (fun _ => ?_)
        · exact hj22 u13
        refine zj_aload_n d_M_done_76 rfl ?_
        refine zj_getR fl_M_36 (fun _ _ _ _ => rfl) d_M_done_77 (fun v29 => ?_)
        refine zj_bipush 6 d_M_done_80 (by decide) ?_
        refine zj_iload d_M_done_82 rfl ?_
        refine zj_imul d_M_done_84 ?_
        refine zj_iload_n d_M_done_85 rfl ?_
        refine zj_iadd d_M_done_86 ?_
        refine zj_aload_n d_M_done_87 rfl ?_
        refine zj_getI fl_M_130 (fun _ _ _ _ => rfl) d_M_done_88 (fun v30 => ?_)
        refine zj_iastore d_M_done_91 (fun u31 => ?_)
        exact hj22 u31
      refine zj_goto 118 d_M_done_55 rfl ?_
      refine zj_iinc (v := (x15 + 1)) [some (zr g (some this)), none, some (.int x14), some (.int (x15 + 1)), some (.int v18)] d_M_done_118 rfl rfl (by decide) rfl rfl ?_
      refine zj_goto 34 d_M_done_121 rfl ?_
      refine zj_cut [some (zr g (some this)), none, some (.int x14), some (.int (x15 + 1)), none] ⟨rfl, ⟨rfl, ⟨rfl, trivial⟩⟩⟩ ?_
      exact hr12 u13 x14 (x15 + 1)
    refine zj_bipush (-3) d_M_done_27 (by decide) ?_
    exact zj_iret rfl rfl rfl rfl d_M_done_29
  refine zj_bipush (-2) d_M_done_8 (by decide) ?_
  exact zj_iret rfl rfl rfl rfl d_M_done_10
def F_M_fill (u0 : zS) (this : Nat) (a1 : Int32) (a2 : Int32) : Option (Int32 × zS) := (zob u0 9 (some this)).bind fun q2 => (F_M_areAway u0 q2 a1).bind fun v1 => if v1 = 0 then (some ((-2), u0)) else (if a2 = (-1) then ((zob u0 9 (some this)).bind fun q5 => (F_M_findCan u0 q5 ).bind fun u4 => (zob u4 9 (some this)).bind fun q8 => (F_M_findComes u4 q8 ).bind fun u7 => (zob u7 9 (some this)).bind fun q11 => (F_M_findBest u7 q11 a1).bind <| zk fun v9 u10 => if v9 = 0 then (some ((-3), u10)) else (if a2 = (-1) then ((zgI u10 9 (some this) 36).bind fun v14 => some (v14, u10)) else ((zgR u10 9 (some this) 35).bind fun v12 => (zaI u10 .int v12 a2).bind fun v13 => some (v13, u10)))) else ((zob u0 9 (some this)).bind fun q16 => (F_M_isPost u0 q16 a2).bind fun v15 => if v15 = 0 then (some ((-2), u0)) else ((zob u0 9 (some this)).bind fun q19 => (F_M_findCan u0 q19 ).bind fun u18 => (zob u18 9 (some this)).bind fun q22 => (F_M_findComes u18 q22 ).bind fun u21 => (zob u21 9 (some this)).bind fun q25 => (F_M_findBest u21 q25 a1).bind <| zk fun v23 u24 => if v23 = 0 then (some ((-3), u24)) else (if a2 = (-1) then ((zgI u24 9 (some this) 36).bind fun v28 => some (v28, u24)) else ((zgR u24 9 (some this) 35).bind fun v26 => (zaI u24 .int v26 a2).bind fun v27 => some (v27, u24))))))
set_option maxHeartbeats 4000000 in
set_option maxRecDepth 100000 in
theorem B_M_fill (g : zG) (d : Nat) {u0 : zS} {this : Nat} {a1 : Int32} {a2 : Int32} {o : Int32 × zS} (h : F_M_fill u0 this a1 a2 = some o) : zMt g zy_M_fill (d + 14) 0 0 [zr g (some this), .int a1, .int a2] u0 (some (.int o.1)) o.2 := by
  refine zMt_of2 (ls := [some (zr g (some this)), some (.int a1), some (.int a2)]) 0 (by decide +kernel) (by simp [lg_sl, zr_cat, zcI, zcJ]) (by simp [zal, zr_cat, zcI, zcJ, List.replicate]) ?_
  revert h
  show zJ g zy_M_fill (d + 14) 0 0 zwI o 0 0 0 [some (zr g (some this)), some (.int a1), some (.int a2)] [] u0 (F_M_fill u0 this a1 a2)
  unfold F_M_fill
  refine zj_aload_n d_M_fill_0 rfl ?_
  refine zj_iload_n d_M_fill_1 rfl ?_
  refine zj_cVIp (ci := 9) (T := zT9) (N := 53) [.int a1] zm_V_M_areAway ml_M_276 rfl (fun _ _ h => B_M_areAway g (d + 12) h) (Nat.le_refl _) ⟨Nat.zero_le _, Nat.zero_le _⟩ rfl rfl (by decide) d_M_fill_2 (fun v1 => ?_)
  refine zj_if_eq 21 d_M_fill_5 rfl (fun _ => ?_) (fun _ => ?_)
  · refine zj_bipush (-2) d_M_fill_21 (by decide) ?_
    exact zj_iret rfl rfl rfl rfl d_M_fill_23
  refine zj_iload_n d_M_fill_8 rfl ?_
  refine zj_iconst (-1) d_M_fill_9 (by decide) ?_
  refine zj_icmp_eq 24 d_M_fill_10 rfl (fun _ => ?_) (fun _ => ?_)
  · refine zj_aload_n d_M_fill_24 rfl ?_
    refine zj_cVU (ci := 9) (T := zT9) (N := 53) [] zm_V_M_findCan ml_M_279 rfl (fun _ _ h => B_M_findCan g (d + 10) h) (Nat.le_refl _) ⟨Nat.zero_le _, Nat.zero_le _⟩ rfl rfl (by decide) d_M_fill_25 (fun u4 => ?_)
    refine zj_aload_n d_M_fill_28 rfl ?_
    refine zj_cVU (ci := 9) (T := zT9) (N := 53) [] zm_V_M_findComes ml_M_282 rfl (fun _ _ h => B_M_findComes g (d + 9) h) (Nat.le_refl _) ⟨Nat.zero_le _, Nat.zero_le _⟩ rfl rfl (by decide) d_M_fill_29 (fun u7 => ?_)
    refine zj_aload_n d_M_fill_32 rfl ?_
    refine zj_iload_n d_M_fill_33 rfl ?_
    refine zj_cVI (ci := 9) (T := zT9) (N := 53) [.int a1] zm_V_M_findBest ml_M_285 rfl (fun _ _ h => B_M_findBest g (d) h) (Nat.le_refl _) ⟨Nat.zero_le _, Nat.zero_le _⟩ rfl rfl (by decide) d_M_fill_34 (fun v9 u10 => ?_)
    refine zj_if_ne 43 d_M_fill_37 rfl (fun _ => ?_) (fun _ => ?_)
    · refine zj_iload_n d_M_fill_43 rfl ?_
      refine zj_iconst (-1) d_M_fill_44 (by decide) ?_
      refine zj_icmp_ne 55 d_M_fill_45 rfl (fun _ => ?_) (fun _ => ?_)
      · refine zj_aload_n d_M_fill_55 rfl ?_
        refine zj_getR fl_M_76 (fun _ _ _ _ => rfl) d_M_fill_56 (fun v12 => ?_)
        refine zj_iload_n d_M_fill_59 rfl ?_
        refine zj_iaload d_M_fill_60 (fun v13 => ?_)
        exact zj_iret rfl rfl rfl rfl d_M_fill_61
      refine zj_aload_n d_M_fill_48 rfl ?_
      refine zj_getI fl_M_269 (fun _ _ _ _ => rfl) d_M_fill_49 (fun v14 => ?_)
      refine zj_goto 61 d_M_fill_52 rfl ?_
      exact zj_iret rfl rfl rfl rfl d_M_fill_61
    refine zj_bipush (-3) d_M_fill_40 (by decide) ?_
    exact zj_iret rfl rfl rfl rfl d_M_fill_42
  refine zj_aload_n d_M_fill_13 rfl ?_
  refine zj_iload_n d_M_fill_14 rfl ?_
  refine zj_cVIp (ci := 9) (T := zT9) (N := 53) [.int a2] zm_V_M_isPost ml_M_120 rfl (fun _ _ h => B_M_isPost g (d + 11) h) (Nat.le_refl _) ⟨Nat.zero_le _, Nat.zero_le _⟩ rfl rfl (by decide) d_M_fill_15 (fun v15 => ?_)
  refine zj_if_ne 24 d_M_fill_18 rfl (fun _ => ?_) (fun _ => ?_)
  · refine zj_aload_n d_M_fill_24 rfl ?_
    refine zj_cVU (ci := 9) (T := zT9) (N := 53) [] zm_V_M_findCan ml_M_279 rfl (fun _ _ h => B_M_findCan g (d + 10) h) (Nat.le_refl _) ⟨Nat.zero_le _, Nat.zero_le _⟩ rfl rfl (by decide) d_M_fill_25 (fun u18 => ?_)
    refine zj_aload_n d_M_fill_28 rfl ?_
    refine zj_cVU (ci := 9) (T := zT9) (N := 53) [] zm_V_M_findComes ml_M_282 rfl (fun _ _ h => B_M_findComes g (d + 9) h) (Nat.le_refl _) ⟨Nat.zero_le _, Nat.zero_le _⟩ rfl rfl (by decide) d_M_fill_29 (fun u21 => ?_)
    refine zj_aload_n d_M_fill_32 rfl ?_
    refine zj_iload_n d_M_fill_33 rfl ?_
    refine zj_cVI (ci := 9) (T := zT9) (N := 53) [.int a1] zm_V_M_findBest ml_M_285 rfl (fun _ _ h => B_M_findBest g (d) h) (Nat.le_refl _) ⟨Nat.zero_le _, Nat.zero_le _⟩ rfl rfl (by decide) d_M_fill_34 (fun v23 u24 => ?_)
    refine zj_if_ne 43 d_M_fill_37 rfl (fun _ => ?_) (fun _ => ?_)
    · refine zj_iload_n d_M_fill_43 rfl ?_
      refine zj_iconst (-1) d_M_fill_44 (by decide) ?_
      refine zj_icmp_ne 55 d_M_fill_45 rfl (fun _ => ?_) (fun _ => ?_)
      · refine zj_aload_n d_M_fill_55 rfl ?_
        refine zj_getR fl_M_76 (fun _ _ _ _ => rfl) d_M_fill_56 (fun v26 => ?_)
        refine zj_iload_n d_M_fill_59 rfl ?_
        refine zj_iaload d_M_fill_60 (fun v27 => ?_)
        exact zj_iret rfl rfl rfl rfl d_M_fill_61
      refine zj_aload_n d_M_fill_48 rfl ?_
      refine zj_getI fl_M_269 (fun _ _ _ _ => rfl) d_M_fill_49 (fun v28 => ?_)
      refine zj_goto 61 d_M_fill_52 rfl ?_
      exact zj_iret rfl rfl rfl rfl d_M_fill_61
    refine zj_bipush (-3) d_M_fill_40 (by decide) ?_
    exact zj_iret rfl rfl rfl rfl d_M_fill_42
  refine zj_bipush (-2) d_M_fill_21 (by decide) ?_
  exact zj_iret rfl rfl rfl rfl d_M_fill_23
def F_M_sure (u0 : zS) (this : Nat) (a1 : Int32) : Option (Int64 × zS) := (F_M_in u0 ((a1 : Int32).toInt64) 0 1).bind fun v1 => if v1 = 0 then (some ((-4611686018427387904), u0)) else ((zob u0 9 (some this)).bind fun q4 => (F_M_findCan u0 q4 ).bind fun u3 => zfix2 (fun (r5 : Int64 → Int32 → Option (Int64 × zS)) (x6 : Int64) (x7 : Int32) => (zgI u3 9 (some this) 4).bind fun v8 => if v8 ≤ x7 then (zfix3 (fun (r9 : zS → Int64 → Int32 → Option (Int64 × zS)) (u10 : zS) (x11 : Int64) (x12 : Int32) => (zgI u10 9 (some this) 4).bind fun v13 => if ((1 : Int32) <<< (v13 &&& 31)) ≤ x12 then ((F_M_partOf u10 x11 x6 a1).bind fun v14 => some (v14, u10)) else (zfix2 (fun (r15 : Int64 → Int32 → Option (Int64 × zS)) (x16 : Int64) (x17 : Int32) => (zgI u10 9 (some this) 4).bind fun v18 => if v18 ≤ x17 then (if (lg_cmp x16 0) ≤ 0 then (r9 u10 (x11 + 0) (x12 + 1)) else ((zob u10 9 (some this)).bind fun q21 => (F_M_isFilled u10 q21 x12).bind <| zk fun v19 u20 => if v19 = 0 then (r9 u20 (x11 + 0) (x12 + 1)) else (r9 u20 (x11 + x16) (x12 + 1)))) else (if ((x12 >>> (x17 &&& 31)) &&& 1) = 1 then ((zgR u10 9 (some this) 8).bind fun v25 => (zaI u10 .int v25 x17).bind fun v26 => zlet ((x16 * ((v26 : Int32).toInt64)) : Int64) fun x27 => r15 x27 (x17 + 1)) else ((zgR u10 9 (some this) 8).bind fun v22 => (zaI u10 .int v22 x17).bind fun v23 => zlet ((x16 * ((((10 : Int32) - v23) : Int32).toInt64)) : Int64) fun x24 => r15 x24 (x17 + 1)))) zFU 1 0)) zFU u3 0 0) else (r5 (x6 * 10) (x7 + 1))) zFU 1 0)
set_option maxHeartbeats 4000000 in
set_option maxRecDepth 100000 in
theorem B_M_sure (g : zG) (d : Nat) {u0 : zS} {this : Nat} {a1 : Int32} {o : Int64 × zS} (h : F_M_sure u0 this a1 = some o) : zMt g zy_M_sure (d + 14) 0 0 [zr g (some this), .int a1] u0 (some (.long o.1)) o.2 := by
  refine zMt_of2 (ls := [some (zr g (some this)), some (.int a1), none, none, none, none, none, none, none, none]) 8 (by decide +kernel) (by simp [lg_sl, zr_cat, zcI, zcJ]) (by simp [zal, zr_cat, zcI, zcJ, List.replicate]) ?_
  revert h
  show zJ g zy_M_sure (d + 14) 0 0 zwJ o 0 0 0 [some (zr g (some this)), some (.int a1), none, none, none, none, none, none, none, none] [] u0 (F_M_sure u0 this a1)
  unfold F_M_sure
  refine zj_iload_n d_M_sure_0 rfl ?_
  refine zj_i2l d_M_sure_1 ?_
  refine zj_lconst 0 d_M_sure_2 (by decide) ?_
  refine zj_lconst 1 d_M_sure_3 (by decide) ?_
  refine zj_cSIp [.long ((a1 : Int32).toInt64), .long 0, .long 1] zm_S_M_in ml_M_109 (fun _ h => B_M_in g (d + 12) h) (Nat.le_refl _) ⟨Nat.zero_le _, Nat.zero_le _⟩ rfl rfl (by decide) d_M_sure_4 (fun v1 => ?_)
  refine zj_if_ne 14 d_M_sure_7 rfl (fun _ => ?_) (fun _ => ?_)
  · refine zj_aload_n d_M_sure_14 rfl ?_
    refine zj_cVU (ci := 9) (T := zT9) (N := 53) [] zm_V_M_findCan ml_M_279 rfl (fun _ _ h => B_M_findCan g (d + 10) h) (Nat.le_refl _) ⟨Nat.zero_le _, Nat.zero_le _⟩ rfl rfl (by decide) d_M_sure_15 (fun u3 => ?_)
    refine zj_lconst 0 d_M_sure_18 (by decide) ?_
    refine zj_lstore_n [some (zr g (some this)), some (.int a1), some (.long 0), none, none, none, none, none, none, none] d_M_sure_19 (by decide) rfl rfl ?_
    refine zj_lconst 1 d_M_sure_20 (by decide) ?_
    refine zj_lstore [some (zr g (some this)), some (.int a1), some (.long 0), none, some (.long 1), none, none, none, none, none] d_M_sure_21 (by decide) rfl rfl ?_
    refine zj_iconst 0 d_M_sure_23 (by decide) ?_
    refine zj_istore [some (zr g (some this)), some (.int a1), some (.long 0), none, some (.long 1), none, some (.int 0), none, none, none] d_M_sure_24 (by decide) rfl rfl ?_
    refine zj_fix2 (fun x6 x7 => [some (zr g (some this)), some (.int a1), some (.long 0), none, some (.long x6), none, some (.int x7), none, none, none]) (fun x6 x7 => u3) (fun r5 hr5 x6 x7 => ?_) 1 0
    refine zj_iload d_M_sure_26 rfl ?_
    refine zj_aload_n d_M_sure_28 rfl ?_
    refine zj_getI fl_M_113 (fun _ _ _ _ => rfl) d_M_sure_29 (fun v8 => ?_)
    refine zj_icmp_ge 49 d_M_sure_32 rfl (fun _ => ?_) (fun _ => ?_)
    · refine zj_iconst 0 d_M_sure_49 (by decide) ?_
      refine zj_istore [some (zr g (some this)), some (.int a1), some (.long 0), none, some (.long x6), none, some (.int 0), none, none, none] d_M_sure_50 (by decide) rfl rfl ?_
      refine zj_fix3 (fun u10 x11 x12 => [some (zr g (some this)), some (.int a1), some (.long x11), none, some (.long x6), none, some (.int x12), none, none, none]) (fun u10 x11 x12 => u10) (fun r9 hr9 u10 x11 x12 => ?_) u3 0 0
      refine zj_iload d_M_sure_52 rfl ?_
      refine zj_iconst 1 d_M_sure_54 (by decide) ?_
      refine zj_aload_n d_M_sure_55 rfl ?_
      refine zj_getI fl_M_113 (fun _ _ _ _ => rfl) d_M_sure_56 (fun v13 => ?_)
      refine zj_ishl d_M_sure_59 ?_
      refine zj_icmp_ge 153 d_M_sure_60 rfl (fun _ => ?_) (fun _ => ?_)
      · refine zj_lload_n d_M_sure_153 rfl ?_
        refine zj_lload d_M_sure_154 rfl ?_
        refine zj_iload_n d_M_sure_156 rfl ?_
        refine zj_cSJp [.long x11, .long x6, .int a1] zm_S_M_partOf ml_M_332 (fun _ h => B_M_partOf g (d + 12) h) (Nat.le_refl _) ⟨Nat.zero_le _, Nat.zero_le _⟩ rfl rfl (by decide) d_M_sure_157 (fun v14 => ?_)
        exact zj_lret rfl rfl rfl rfl d_M_sure_160
      refine zj_lconst 1 d_M_sure_63 (by decide) ?_
      refine zj_lstore [some (zr g (some this)), some (.int a1), some (.long x11), none, some (.long x6), none, some (.int x12), some (.long 1), none, none] d_M_sure_64 (by decide) rfl rfl ?_
      refine zj_iconst 0 d_M_sure_66 (by decide) ?_
      refine zj_istore [some (zr g (some this)), some (.int a1), some (.long x11), none, some (.long x6), none, some (.int x12), some (.long 1), none, some (.int 0)] d_M_sure_67 (by decide) rfl rfl ?_
      refine zj_fix2 (fun x16 x17 => [some (zr g (some this)), some (.int a1), some (.long x11), none, some (.long x6), none, some (.int x12), some (.long x16), none, some (.int x17)]) (fun x16 x17 => u10) (fun r15 hr15 x16 x17 => ?_) 1 0
      refine zj_iload d_M_sure_69 rfl ?_
      refine zj_aload_n d_M_sure_71 rfl ?_
      refine zj_getI fl_M_113 (fun _ _ _ _ => rfl) d_M_sure_72 (fun v18 => ?_)
      refine zj_icmp_ge 122 d_M_sure_75 rfl (fun _ => ?_) (fun _ => ?_)
      · refine zj_lload_n d_M_sure_122 rfl ?_
        refine zj_lload d_M_sure_123 rfl ?_
        refine zj_lconst 0 d_M_sure_125 (by decide) ?_
        refine zj_lcmp d_M_sure_126 ?_
        refine zj_if_le 144 d_M_sure_127 rfl (fun _ => ?_) (fun _ => ?_)
        · refine zj_lconst 0 d_M_sure_144 (by decide) ?_
          refine zj_ladd d_M_sure_145 ?_
          refine zj_lstore_n [some (zr g (some this)), some (.int a1), some (.long (x11 + 0)), none, some (.long x6), none, some (.int x12), some (.long x16), none, some (.int x17)] d_M_sure_146 (by decide) rfl rfl ?_
          refine zj_iinc (v := (x12 + 1)) [some (zr g (some this)), some (.int a1), some (.long (x11 + 0)), none, some (.long x6), none, some (.int (x12 + 1)), some (.long x16), none, some (.int x17)] d_M_sure_147 rfl rfl (by decide) rfl rfl ?_
          refine zj_goto 52 d_M_sure_150 rfl ?_
          refine zj_cut [some (zr g (some this)), some (.int a1), some (.long (x11 + 0)), none, some (.long x6), none, some (.int (x12 + 1)), none, none, none] ⟨rfl, ⟨rfl, ⟨rfl, ⟨rfl, ⟨rfl, trivial⟩⟩⟩⟩⟩ ?_
          exact hr9 u10 (x11 + 0) (x12 + 1)
        refine zj_aload_n d_M_sure_130 rfl ?_
        refine zj_iload d_M_sure_131 rfl ?_
        refine zj_cVI (ci := 9) (T := zT9) (N := 53) [.int x12] zm_V_M_isFilled ml_M_291 rfl (fun _ _ h => B_M_isFilled g (d) h) (Nat.le_refl _) ⟨Nat.zero_le _, Nat.zero_le _⟩ rfl rfl (by simp [zcI, zcJ]) d_M_sure_133 (fun v19 u20 => ?_)
        refine zj_if_eq 144 d_M_sure_136 rfl (fun _ => ?_) (fun _ => ?_)
        · refine zj_lconst 0 d_M_sure_144 (by decide) ?_
          refine zj_ladd d_M_sure_145 ?_
          refine zj_lstore_n [some (zr g (some this)), some (.int a1), some (.long (x11 + 0)), none, some (.long x6), none, some (.int x12), some (.long x16), none, some (.int x17)] d_M_sure_146 (by decide) rfl rfl ?_
          refine zj_iinc (v := (x12 + 1)) [some (zr g (some this)), some (.int a1), some (.long (x11 + 0)), none, some (.long x6), none, some (.int (x12 + 1)), some (.long x16), none, some (.int x17)] d_M_sure_147 rfl rfl (by decide) rfl rfl ?_
          refine zj_goto 52 d_M_sure_150 rfl ?_
          refine zj_cut [some (zr g (some this)), some (.int a1), some (.long (x11 + 0)), none, some (.long x6), none, some (.int (x12 + 1)), none, none, none] ⟨rfl, ⟨rfl, ⟨rfl, ⟨rfl, ⟨rfl, trivial⟩⟩⟩⟩⟩ ?_
          exact hr9 u20 (x11 + 0) (x12 + 1)
        refine zj_lload d_M_sure_139 rfl ?_
        refine zj_goto 145 d_M_sure_141 rfl ?_
        refine zj_ladd d_M_sure_145 ?_
        refine zj_lstore_n [some (zr g (some this)), some (.int a1), some (.long (x11 + x16)), none, some (.long x6), none, some (.int x12), some (.long x16), none, some (.int x17)] d_M_sure_146 (by decide) rfl rfl ?_
        refine zj_iinc (v := (x12 + 1)) [some (zr g (some this)), some (.int a1), some (.long (x11 + x16)), none, some (.long x6), none, some (.int (x12 + 1)), some (.long x16), none, some (.int x17)] d_M_sure_147 rfl rfl (by decide) rfl rfl ?_
        refine zj_goto 52 d_M_sure_150 rfl ?_
        refine zj_cut [some (zr g (some this)), some (.int a1), some (.long (x11 + x16)), none, some (.long x6), none, some (.int (x12 + 1)), none, none, none] ⟨rfl, ⟨rfl, ⟨rfl, ⟨rfl, ⟨rfl, trivial⟩⟩⟩⟩⟩ ?_
        exact hr9 u20 (x11 + x16) (x12 + 1)
      refine zj_lload d_M_sure_78 rfl ?_
      refine zj_iload d_M_sure_80 rfl ?_
      refine zj_iload d_M_sure_82 rfl ?_
      refine zj_ishr d_M_sure_84 ?_
      refine zj_iconst 1 d_M_sure_85 (by decide) ?_
      refine zj_iand d_M_sure_86 ?_
      refine zj_iconst 1 d_M_sure_87 (by decide) ?_
      refine zj_icmp_ne 102 d_M_sure_88 rfl (fun _ => ?_) (fun _ => ?_)
      · refine zj_bipush 10 d_M_sure_102 (by decide) ?_
        refine zj_aload_n d_M_sure_104 rfl ?_
        refine zj_getR fl_M_30 (fun _ _ _ _ => rfl) d_M_sure_105 (fun v22 => ?_)
        refine zj_iload d_M_sure_108 rfl ?_
        refine zj_iaload d_M_sure_110 (fun v23 => ?_)
        refine zj_isub d_M_sure_111 ?_
        refine zj_i2l d_M_sure_112 ?_
        refine zj_lmul d_M_sure_113 ?_
        refine zj_letJ (fun x24 => ?_)
        refine zj_lstore [some (zr g (some this)), some (.int a1), some (.long x11), none, some (.long x6), none, some (.int x12), some (.long x24), none, some (.int x17)] d_M_sure_114 (by decide) rfl rfl ?_
        refine zj_iinc (v := (x17 + 1)) [some (zr g (some this)), some (.int a1), some (.long x11), none, some (.long x6), none, some (.int x12), some (.long x24), none, some (.int (x17 + 1))] d_M_sure_116 rfl rfl (by decide) rfl rfl ?_
        refine zj_goto 69 d_M_sure_119 rfl ?_
        exact hr15 x24 (x17 + 1)
      refine zj_aload_n d_M_sure_91 rfl ?_
      refine zj_getR fl_M_30 (fun _ _ _ _ => rfl) d_M_sure_92 (fun v25 => ?_)
      refine zj_iload d_M_sure_95 rfl ?_
      refine zj_iaload d_M_sure_97 (fun v26 => ?_)
      refine zj_i2l d_M_sure_98 ?_
      refine zj_goto 113 d_M_sure_99 rfl ?_
      refine zj_lmul d_M_sure_113 ?_
      refine zj_letJ (fun x27 => ?_)
      refine zj_lstore [some (zr g (some this)), some (.int a1), some (.long x11), none, some (.long x6), none, some (.int x12), some (.long x27), none, some (.int x17)] d_M_sure_114 (by decide) rfl rfl ?_
      refine zj_iinc (v := (x17 + 1)) [some (zr g (some this)), some (.int a1), some (.long x11), none, some (.long x6), none, some (.int x12), some (.long x27), none, some (.int (x17 + 1))] d_M_sure_116 rfl rfl (by decide) rfl rfl ?_
      refine zj_goto 69 d_M_sure_119 rfl ?_
      exact hr15 x27 (x17 + 1)
    refine zj_lload d_M_sure_35 rfl ?_
    refine zj_ldc2 cl_M_330 d_M_sure_37 ?_
    refine zj_lmul d_M_sure_40 ?_
    refine zj_lstore [some (zr g (some this)), some (.int a1), some (.long 0), none, some (.long (x6 * 10)), none, some (.int x7), none, none, none] d_M_sure_41 (by decide) rfl rfl ?_
    refine zj_iinc (v := (x7 + 1)) [some (zr g (some this)), some (.int a1), some (.long 0), none, some (.long (x6 * 10)), none, some (.int (x7 + 1)), none, none, none] d_M_sure_43 rfl rfl (by decide) rfl rfl ?_
    refine zj_goto 26 d_M_sure_46 rfl ?_
    exact hr5 (x6 * 10) (x7 + 1)
  refine zj_ldc2 cl_M_328 d_M_sure_10 ?_
  exact zj_lret rfl rfl rfl rfl d_M_sure_13
def F_M_worstOf (u0 : zS) (this : Nat) (a1 : Int32) : Option (Int32 × zS) := zfix2 (fun (r1 : zS → Int32 → Option (Int32 × zS)) (u2 : zS) (x3 : Int32) => (zgI u2 9 (some this) 4).bind fun v4 => if ((1 : Int32) <<< (v4 &&& 31)) ≤ x3 then (some ((-1), u2)) else ((F_M_bitsOf u2 x3).bind fun v5 => if v5 = a1 then ((zob u2 9 (some this)).bind fun q8 => (F_M_isFilled u2 q8 x3).bind <| zk fun v6 u7 => if v6 = 0 then (some (x3, u7)) else (r1 u7 (x3 + 1))) else (r1 u2 (x3 + 1)))) zFU u0 0
set_option maxHeartbeats 4000000 in
set_option maxRecDepth 100000 in
theorem B_M_worstOf (g : zG) (d : Nat) {u0 : zS} {this : Nat} {a1 : Int32} {o : Int32 × zS} (h : F_M_worstOf u0 this a1 = some o) : zMt g zy_M_worstOf (d + 14) 0 0 [zr g (some this), .int a1] u0 (some (.int o.1)) o.2 := by
  refine zMt_of2 (ls := [some (zr g (some this)), some (.int a1), none]) 1 (by decide +kernel) (by simp [lg_sl, zr_cat, zcI, zcJ]) (by simp [zal, zr_cat, zcI, zcJ, List.replicate]) ?_
  revert h
  show zJ g zy_M_worstOf (d + 14) 0 0 zwI o 0 0 0 [some (zr g (some this)), some (.int a1), none] [] u0 (F_M_worstOf u0 this a1)
  unfold F_M_worstOf
  refine zj_iconst 0 d_M_worstOf_0 (by decide) ?_
  refine zj_istore_n [some (zr g (some this)), some (.int a1), some (.int 0)] d_M_worstOf_1 (by decide) rfl rfl ?_
  refine zj_fix2 (fun u2 x3 => [some (zr g (some this)), some (.int a1), some (.int x3)]) (fun u2 x3 => u2) (fun r1 hr1 u2 x3 => ?_) u0 0
  refine zj_iload_n d_M_worstOf_2 rfl ?_
  refine zj_iconst 1 d_M_worstOf_3 (by decide) ?_
  refine zj_aload_n d_M_worstOf_4 rfl ?_
  refine zj_getI fl_M_113 (fun _ _ _ _ => rfl) d_M_worstOf_5 (fun v4 => ?_)
  refine zj_ishl d_M_worstOf_8 ?_
  refine zj_icmp_ge 36 d_M_worstOf_9 rfl (fun _ => ?_) (fun _ => ?_)
  · refine zj_iconst (-1) d_M_worstOf_36 (by decide) ?_
    exact zj_iret rfl rfl rfl rfl d_M_worstOf_37
  refine zj_iload_n d_M_worstOf_12 rfl ?_
  refine zj_cSIp [.int x3] zm_S_M_bitsOf ml_M_288 (fun _ h => B_M_bitsOf g (d + 12) h) (Nat.le_refl _) ⟨Nat.zero_le _, Nat.zero_le _⟩ rfl rfl (by decide) d_M_worstOf_13 (fun v5 => ?_)
  refine zj_iload_n d_M_worstOf_16 rfl ?_
  refine zj_icmp_ne 30 d_M_worstOf_17 rfl (fun _ => ?_) (fun _ => ?_)
  · refine zj_iinc (v := (x3 + 1)) [some (zr g (some this)), some (.int a1), some (.int (x3 + 1))] d_M_worstOf_30 rfl rfl (by decide) rfl rfl ?_
    refine zj_goto 2 d_M_worstOf_33 rfl ?_
    exact hr1 u2 (x3 + 1)
  refine zj_aload_n d_M_worstOf_20 rfl ?_
  refine zj_iload_n d_M_worstOf_21 rfl ?_
  refine zj_cVI (ci := 9) (T := zT9) (N := 53) [.int x3] zm_V_M_isFilled ml_M_291 rfl (fun _ _ h => B_M_isFilled g (d) h) (Nat.le_refl _) ⟨Nat.zero_le _, Nat.zero_le _⟩ rfl rfl (by decide) d_M_worstOf_22 (fun v6 u7 => ?_)
  refine zj_if_ne 30 d_M_worstOf_25 rfl (fun _ => ?_) (fun _ => ?_)
  · refine zj_iinc (v := (x3 + 1)) [some (zr g (some this)), some (.int a1), some (.int (x3 + 1))] d_M_worstOf_30 rfl rfl (by decide) rfl rfl ?_
    refine zj_goto 2 d_M_worstOf_33 rfl ?_
    exact hr1 u7 (x3 + 1)
  refine zj_iload_n d_M_worstOf_28 rfl ?_
  exact zj_iret rfl rfl rfl rfl d_M_worstOf_29
def F_M_holds (u0 : zS) (this : Nat) (a1 : Int32) : Option (Int32 × zS) := (F_M_in u0 ((a1 : Int32).toInt64) 0 7).bind fun v1 => if v1 = 0 then (some ((-2), u0)) else ((zob u0 9 (some this)).bind fun q4 => (F_M_findCan u0 q4 ).bind fun u3 => (zob u3 9 (some this)).bind fun q7 => (F_M_worstOf u3 q7 a1).bind <| zk fun v5 u6 => if 0 ≤ v5 then (some (0, u6)) else (some (1, u6)))
set_option maxHeartbeats 4000000 in
set_option maxRecDepth 100000 in
theorem B_M_holds (g : zG) (d : Nat) {u0 : zS} {this : Nat} {a1 : Int32} {o : Int32 × zS} (h : F_M_holds u0 this a1 = some o) : zMt g zy_M_holds (d + 15) 0 0 [zr g (some this), .int a1] u0 (some (.int o.1)) o.2 := by
  refine zMt_of2 (ls := [some (zr g (some this)), some (.int a1)]) 0 (by decide +kernel) (by simp [lg_sl, zr_cat, zcI, zcJ]) (by simp [zal, zr_cat, zcI, zcJ, List.replicate]) ?_
  revert h
  show zJ g zy_M_holds (d + 15) 0 0 zwI o 0 0 0 [some (zr g (some this)), some (.int a1)] [] u0 (F_M_holds u0 this a1)
  unfold F_M_holds
  refine zj_iload_n d_M_holds_0 rfl ?_
  refine zj_i2l d_M_holds_1 ?_
  refine zj_lconst 0 d_M_holds_2 (by decide) ?_
  refine zj_ldc2 cl_M_294 d_M_holds_3 ?_
  refine zj_cSIp [.long ((a1 : Int32).toInt64), .long 0, .long 7] zm_S_M_in ml_M_109 (fun _ h => B_M_in g (d + 13) h) (Nat.le_refl _) ⟨Nat.zero_le _, Nat.zero_le _⟩ rfl rfl (by decide) d_M_holds_6 (fun v1 => ?_)
  refine zj_if_ne 15 d_M_holds_9 rfl (fun _ => ?_) (fun _ => ?_)
  · refine zj_aload_n d_M_holds_15 rfl ?_
    refine zj_cVU (ci := 9) (T := zT9) (N := 53) [] zm_V_M_findCan ml_M_279 rfl (fun _ _ h => B_M_findCan g (d + 11) h) (Nat.le_refl _) ⟨Nat.zero_le _, Nat.zero_le _⟩ rfl rfl (by decide) d_M_holds_16 (fun u3 => ?_)
    refine zj_aload_n d_M_holds_19 rfl ?_
    refine zj_iload_n d_M_holds_20 rfl ?_
    refine zj_cVI (ci := 9) (T := zT9) (N := 53) [.int a1] zm_V_M_worstOf ml_M_296 rfl (fun _ _ h => B_M_worstOf g (d) h) (Nat.le_refl _) ⟨Nat.zero_le _, Nat.zero_le _⟩ rfl rfl (by decide) d_M_holds_21 (fun v5 u6 => ?_)
    refine zj_if_ge 31 d_M_holds_24 rfl (fun _ => ?_) (fun _ => ?_)
    · refine zj_iconst 0 d_M_holds_31 (by decide) ?_
      exact zj_iret rfl rfl rfl rfl d_M_holds_32
    refine zj_iconst 1 d_M_holds_27 (by decide) ?_
    refine zj_goto 32 d_M_holds_28 rfl ?_
    exact zj_iret rfl rfl rfl rfl d_M_holds_32
  refine zj_bipush (-2) d_M_holds_12 (by decide) ?_
  exact zj_iret rfl rfl rfl rfl d_M_holds_14
def F_M_ring (u0 : zS) (this : Nat) : Option (Int32 × zS) := (zob u0 9 (some this)).bind fun q3 => (F_M_findCan u0 q3 ).bind fun u2 => zfix2 (fun (r4 : zS → Int32 → Option (Int32 × zS)) (u5 : zS) (x6 : Int32) => (zgI u5 9 (some this) 4).bind fun v7 => if v7 ≤ x6 then (zfix3 (fun (r8 : zS → Int32 → Int32 → Option (Int32 × zS)) (u9 : zS) (x10 : Int32) (x11 : Int32) => (zgI u9 9 (some this) 4).bind fun v12 => if v12 < x11 then (some (x10, u9)) else ((zob u9 9 (some this)).bind fun q15 => (F_M_worstOf u9 q15 x11).bind <| zk fun v13 u14 => if v13 < 0 then (r8 u14 x11 (x11 + 1)) else (some (x10, u14)))) zFU u5 (-1) 0) else ((zgR u5 9 (some this) 6).bind fun v16 => (zgI u5 9 (some this) 4).bind fun v17 => if v17 = 0 then none else (zaI u5 .int v16 ((x6 + 1) - (x6 + 1) / v17 * v17)).bind fun v18 => (zgR u5 9 (some this) 32).bind fun v19 => (zaI u5 .int v19 x6).bind fun v20 => (zgR u5 9 (some this) 13).bind fun v21 => (zaI u5 .boolean v21 (((6 : Int32) * x6) + v18)).bind fun v22 => if v22 = 0 then ((zsI u5 v19 x6 (v20 ||| ((1 : Int32) <<< (v18 &&& 31)))).bind fun u23 => r4 u23 (x6 + 1)) else ((zsI u5 v19 x6 (v20 ||| 0)).bind fun u24 => r4 u24 (x6 + 1)))) zFU u2 0
set_option maxHeartbeats 4000000 in
set_option maxRecDepth 100000 in
theorem B_M_ring (g : zG) (d : Nat) {u0 : zS} {this : Nat} {o : Int32 × zS} (h : F_M_ring u0 this = some o) : zMt g zy_M_ring (d + 15) 0 0 [zr g (some this)] u0 (some (.int o.1)) o.2 := by
  refine zMt_of2 (ls := [some (zr g (some this)), none, none]) 2 (by decide +kernel) (by simp [lg_sl, zr_cat, zcI, zcJ]) (by simp [zal, zr_cat, zcI, zcJ, List.replicate]) ?_
  revert h
  show zJ g zy_M_ring (d + 15) 0 0 zwI o 0 0 0 [some (zr g (some this)), none, none] [] u0 (F_M_ring u0 this)
  unfold F_M_ring
  refine zj_aload_n d_M_ring_0 rfl ?_
  refine zj_cVU (ci := 9) (T := zT9) (N := 53) [] zm_V_M_findCan ml_M_279 rfl (fun _ _ h => B_M_findCan g (d + 11) h) (Nat.le_refl _) ⟨Nat.zero_le _, Nat.zero_le _⟩ rfl rfl (by decide) d_M_ring_1 (fun u2 => ?_)
  refine zj_iconst 0 d_M_ring_4 (by decide) ?_
  refine zj_istore_n [some (zr g (some this)), some (.int 0), none] d_M_ring_5 (by decide) rfl rfl ?_
  refine zj_fix2 (fun u5 x6 => [some (zr g (some this)), some (.int x6), none]) (fun u5 x6 => u5) (fun r4 hr4 u5 x6 => ?_) u2 0
  refine zj_iload_n d_M_ring_6 rfl ?_
  refine zj_aload_n d_M_ring_7 rfl ?_
  refine zj_getI fl_M_113 (fun _ _ _ _ => rfl) d_M_ring_8 (fun v7 => ?_)
  refine zj_icmp_ge 64 d_M_ring_11 rfl (fun _ => ?_) (fun _ => ?_)
  · refine zj_iconst (-1) d_M_ring_64 (by decide) ?_
    refine zj_istore_n [some (zr g (some this)), some (.int (-1)), none] d_M_ring_65 (by decide) rfl rfl ?_
    refine zj_iconst 0 d_M_ring_66 (by decide) ?_
    refine zj_istore_n [some (zr g (some this)), some (.int (-1)), some (.int 0)] d_M_ring_67 (by decide) rfl rfl ?_
    refine zj_fix3 (fun u9 x10 x11 => [some (zr g (some this)), some (.int x10), some (.int x11)]) (fun u9 x10 x11 => u9) (fun r8 hr8 u9 x10 x11 => ?_) u5 (-1) 0
    refine zj_iload_n d_M_ring_68 rfl ?_
    refine zj_aload_n d_M_ring_69 rfl ?_
    refine zj_getI fl_M_113 (fun _ _ _ _ => rfl) d_M_ring_70 (fun v12 => ?_)
    refine zj_icmp_gt 94 d_M_ring_73 rfl (fun _ => ?_) (fun _ => ?_)
    · refine zj_iload_n d_M_ring_94 rfl ?_
      exact zj_iret rfl rfl rfl rfl d_M_ring_95
    refine zj_aload_n d_M_ring_76 rfl ?_
    refine zj_iload_n d_M_ring_77 rfl ?_
    refine zj_cVI (ci := 9) (T := zT9) (N := 53) [.int x11] zm_V_M_worstOf ml_M_296 rfl (fun _ _ h => B_M_worstOf g (d) h) (Nat.le_refl _) ⟨Nat.zero_le _, Nat.zero_le _⟩ rfl rfl (by decide) d_M_ring_78 (fun v13 u14 => ?_)
    refine zj_if_lt 86 d_M_ring_81 rfl (fun _ => ?_) (fun _ => ?_)
    · refine zj_iload_n d_M_ring_86 rfl ?_
      refine zj_istore_n [some (zr g (some this)), some (.int x11), some (.int x11)] d_M_ring_87 (by decide) rfl rfl ?_
      refine zj_iinc (v := (x11 + 1)) [some (zr g (some this)), some (.int x11), some (.int (x11 + 1))] d_M_ring_88 rfl rfl (by decide) rfl rfl ?_
      refine zj_goto 68 d_M_ring_91 rfl ?_
      exact hr8 u14 x11 (x11 + 1)
    refine zj_iload_n d_M_ring_84 rfl ?_
    exact zj_iret rfl rfl rfl rfl d_M_ring_85
  refine zj_aload_n d_M_ring_14 rfl ?_
  refine zj_getR fl_M_24 (fun _ _ _ _ => rfl) d_M_ring_15 (fun v16 => ?_)
  refine zj_iload_n d_M_ring_18 rfl ?_
  refine zj_iconst 1 d_M_ring_19 (by decide) ?_
  refine zj_iadd d_M_ring_20 ?_
  refine zj_aload_n d_M_ring_21 rfl ?_
  refine zj_getI fl_M_113 (fun _ _ _ _ => rfl) d_M_ring_22 (fun v17 => ?_)
  refine zj_iremQ d_M_ring_25 ?_
  refine zj_iaload d_M_ring_26 (fun v18 => ?_)
  refine zj_istore_n [some (zr g (some this)), some (.int x6), some (.int v18)] d_M_ring_27 (by decide) rfl rfl ?_
  refine zj_aload_n d_M_ring_28 rfl ?_
  refine zj_getR fl_M_67 (fun _ _ _ _ => rfl) d_M_ring_29 (fun v19 => ?_)
  refine zj_iload_n d_M_ring_32 rfl ?_
  refine zj_dup2 d_M_ring_33 rfl (zr_cat _ _) ?_
  refine zj_iaload d_M_ring_34 (fun v20 => ?_)
  refine zj_aload_n d_M_ring_35 rfl ?_
  refine zj_getR fl_M_42 (fun _ _ _ _ => rfl) d_M_ring_36 (fun v21 => ?_)
  refine zj_bipush 6 d_M_ring_39 (by decide) ?_
  refine zj_iload_n d_M_ring_41 rfl ?_
  refine zj_imul d_M_ring_42 ?_
  refine zj_iload_n d_M_ring_43 rfl ?_
  refine zj_iadd d_M_ring_44 ?_
  refine zj_zaload d_M_ring_45 (fun v22 => ?_)
  refine zj_if_eq 53 d_M_ring_46 rfl (fun _ => ?_) (fun _ => ?_)
  · refine zj_iconst 1 d_M_ring_53 (by decide) ?_
    refine zj_iload_n d_M_ring_54 rfl ?_
    refine zj_ishl d_M_ring_55 ?_
    refine zj_ior d_M_ring_56 ?_
    refine zj_iastore d_M_ring_57 (fun u23 => ?_)
    refine zj_iinc (v := (x6 + 1)) [some (zr g (some this)), some (.int (x6 + 1)), some (.int v18)] d_M_ring_58 rfl rfl (by decide) rfl rfl ?_
    refine zj_goto 6 d_M_ring_61 rfl ?_
    refine zj_cut [some (zr g (some this)), some (.int (x6 + 1)), none] ⟨rfl, ⟨rfl, trivial⟩⟩ ?_
    exact hr4 u23 (x6 + 1)
  refine zj_iconst 0 d_M_ring_49 (by decide) ?_
  refine zj_goto 56 d_M_ring_50 rfl ?_
  refine zj_ior d_M_ring_56 ?_
  refine zj_iastore d_M_ring_57 (fun u24 => ?_)
  refine zj_iinc (v := (x6 + 1)) [some (zr g (some this)), some (.int (x6 + 1)), some (.int v18)] d_M_ring_58 rfl rfl (by decide) rfl rfl ?_
  refine zj_goto 6 d_M_ring_61 rfl ?_
  refine zj_cut [some (zr g (some this)), some (.int (x6 + 1)), none] ⟨rfl, ⟨rfl, trivial⟩⟩ ?_
  exact hr4 u24 (x6 + 1)
