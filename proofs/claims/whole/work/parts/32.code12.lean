def F_M_tries (u0 : zS) (this : Nat) (a1 : Int32) (a2 : Int32) (a3 : Int32) : Option (zS) := (zob u0 9 (some this)).bind fun q3 => (F_M_costOf u0 q3 (a2 / 10) (a2 - a2 / 10 * 10)).bind <| zk fun v1 u2 => zjn2 (fun (j6 : zS → Int32 → Option (zS)) => if 0 ≤ a3 then ((zob u2 9 (some this)).bind fun q61 => (F_M_costOf u2 q61 (a3 / 10) (a3 - a3 / 10 * 10)).bind <| zk fun v59 u60 => j6 u60 v59) else (j6 u2 0)) (fun (u4 : zS) (x5 : Int32) => (zgI u4 9 (some this) 38).bind fun v7 => if v7 < 0 then ((zob u4 9 (some this)).bind fun q10 => (F_M_learns u4 q10 a2 1).bind fun u9 => zjn1 (fun (j12 : zS → Option (zS)) => if a3 < 0 then (j12 u9) else ((zob u9 9 (some this)).bind fun q32 => (F_M_learns u9 q32 a3 1).bind fun u31 => j12 u31)) (fun (u11 : zS) => (zob u11 9 (some this)).bind fun q15 => (F_M_worstOf u11 q15 a1).bind <| zk fun v13 u14 => zjn1 (fun (j17 : zS → Option (zS)) => if 0 ≤ v13 then (j17 u14) else (zjn1 (fun (j25 : Int32 → Option (zS)) => if 0 ≤ a3 then (j25 2) else (j25 1)) (fun (x24 : Int32) => (zpI u14 9 (some this) 38 x24).bind fun u26 => (zpI u26 9 (some this) 39 (v1 + x5)).bind fun u27 => if 0 ≤ a3 then ((zpI u27 9 (some this) 40 (((100 : Int32) * a2) + a3)).bind fun u28 => j17 u28) else ((zpI u27 9 (some this) 40 a2).bind fun u29 => j17 u29)))) (fun (u16 : zS) => (zob u16 9 (some this)).bind fun q20 => (F_M_learns u16 q20 a2 0).bind fun u19 => if a3 < 0 then (some u19) else ((zob u19 9 (some this)).bind fun q23 => (F_M_learns u19 q23 a3 0).bind fun u22 => some u22)))) else ((zgI u4 9 (some this) 39).bind fun v33 => if (v1 + x5) < v33 then ((zob u4 9 (some this)).bind fun q36 => (F_M_learns u4 q36 a2 1).bind fun u35 => zjn1 (fun (j38 : zS → Option (zS)) => if a3 < 0 then (j38 u35) else ((zob u35 9 (some this)).bind fun q58 => (F_M_learns u35 q58 a3 1).bind fun u57 => j38 u57)) (fun (u37 : zS) => (zob u37 9 (some this)).bind fun q41 => (F_M_worstOf u37 q41 a1).bind <| zk fun v39 u40 => zjn1 (fun (j43 : zS → Option (zS)) => if 0 ≤ v39 then (j43 u40) else (zjn1 (fun (j51 : Int32 → Option (zS)) => if 0 ≤ a3 then (j51 2) else (j51 1)) (fun (x50 : Int32) => (zpI u40 9 (some this) 38 x50).bind fun u52 => (zpI u52 9 (some this) 39 (v1 + x5)).bind fun u53 => if 0 ≤ a3 then ((zpI u53 9 (some this) 40 (((100 : Int32) * a2) + a3)).bind fun u54 => j43 u54) else ((zpI u53 9 (some this) 40 a2).bind fun u55 => j43 u55)))) (fun (u42 : zS) => (zob u42 9 (some this)).bind fun q46 => (F_M_learns u42 q46 a2 0).bind fun u45 => if a3 < 0 then (some u45) else ((zob u45 9 (some this)).bind fun q49 => (F_M_learns u45 q49 a3 0).bind fun u48 => some u48)))) else (some u4)))
set_option maxHeartbeats 4000000 in
set_option maxRecDepth 100000 in
theorem B_M_tries (g : zG) (d : Nat) {u0 : zS} {this : Nat} {a1 : Int32} {a2 : Int32} {a3 : Int32} {o : zS} (h : F_M_tries u0 this a1 a2 a3 = some o) : zMt g zy_M_tries (d + 15) 0 0 [zr g (some this), .int a1, .int a2, .int a3] u0 none o := by
  refine zMt_of2 (ls := [some (zr g (some this)), some (.int a1), some (.int a2), some (.int a3), none]) 1 (by decide +kernel) (by simp [lg_sl, zr_cat, zcI, zcJ]) (by simp [zal, zr_cat, zcI, zcJ, List.replicate]) ?_
  revert h
  show zJ g zy_M_tries (d + 15) 0 0 zwV o 0 0 0 [some (zr g (some this)), some (.int a1), some (.int a2), some (.int a3), none] [] u0 (F_M_tries u0 this a1 a2 a3)
  unfold F_M_tries
  refine zj_aload_n d_M_tries_0 rfl ?_
  refine zj_iload_n d_M_tries_1 rfl ?_
  refine zj_bipush 10 d_M_tries_2 (by decide) ?_
  refine zj_idiv d_M_tries_4 (by decide) ?_
  refine zj_iload_n d_M_tries_5 rfl ?_
  refine zj_bipush 10 d_M_tries_6 (by decide) ?_
  refine zj_irem d_M_tries_8 (by decide) ?_
  refine zj_cVI (ci := 9) (T := zT9) (N := 53) [.int (a2 / 10), .int (a2 - a2 / 10 * 10)] zm_V_M_costOf ml_M_156 rfl (fun _ _ h => B_M_costOf g (d + 11) h) (Nat.le_refl _) ⟨Nat.zero_le _, Nat.zero_le _⟩ rfl rfl (by decide) d_M_tries_9 (fun v1 u2 => ?_)
  refine zj_iload_n d_M_tries_12 rfl ?_
  refine zj_jn2 (pcj := 32) (fun u4 x5 => [some (zr g (some this)), some (.int a1), some (.int a2), some (.int a3), none]) (fun u4 x5 => [.int x5, .int v1]) (fun u4 x5 => u4) (fun u4 x5 => ?_) (fun j6 hj6 => ?_)
  · refine zj_iadd d_M_tries_32 ?_
    refine zj_istore [some (zr g (some this)), some (.int a1), some (.int a2), some (.int a3), some (.int (v1 + x5))] d_M_tries_33 (by decide) rfl rfl ?_
    refine zj_aload_n d_M_tries_35 rfl ?_
    refine zj_getI fl_M_299 (fun _ _ _ _ => rfl) d_M_tries_36 (fun v7 => ?_)
    refine zj_if_lt 52 d_M_tries_39 rfl (fun _ => ?_) (fun _ => ?_)
    · refine zj_aload_n d_M_tries_52 rfl ?_
      refine zj_iload_n d_M_tries_53 rfl ?_
      refine zj_iconst 1 d_M_tries_54 (by decide) ?_
      refine zj_cVU (ci := 9) (T := zT9) (N := 53) [.int a2, .int 1] zm_V_M_learns ml_M_312 rfl (fun _ _ h => B_M_learns g (d + 13) h) (Nat.le_refl _) ⟨Nat.zero_le _, Nat.zero_le _⟩ rfl rfl (by decide) d_M_tries_55 (fun u9 => ?_)
      refine zj_iload_n d_M_tries_58 rfl ?_
      refine zj_jn1 (pcj := 68) (fun u11 => [some (zr g (some this)), some (.int a1), some (.int a2), some (.int a3), some (.int (v1 + x5))]) (fun u11 => []) (fun u11 => u11) (fun u11 => ?_) (fun j12 hj12 => ?_)
      · refine zj_aload_n d_M_tries_68 rfl ?_
        refine zj_iload_n d_M_tries_69 rfl ?_
        refine zj_cVI (ci := 9) (T := zT9) (N := 53) [.int a1] zm_V_M_worstOf ml_M_296 rfl (fun _ _ h => B_M_worstOf g (d) h) (Nat.le_refl _) ⟨Nat.zero_le _, Nat.zero_le _⟩ rfl rfl (by decide) d_M_tries_70 (fun v13 u14 => ?_)
        refine zj_jn1 (pcj := 113) (fun u16 => [some (zr g (some this)), none, some (.int a2), some (.int a3), none]) (fun u16 => []) (fun u16 => u16) (fun u16 => ?_) (fun j17 hj17 => ?_)
        · refine zj_aload_n d_M_tries_113 rfl ?_
          refine zj_iload_n d_M_tries_114 rfl ?_
          refine zj_iconst 0 d_M_tries_115 (by decide) ?_
          refine zj_cVU (ci := 9) (T := zT9) (N := 53) [.int a2, .int 0] zm_V_M_learns ml_M_312 rfl (fun _ _ h => B_M_learns g (d + 13) h) (Nat.le_refl _) ⟨Nat.zero_le _, Nat.zero_le _⟩ rfl rfl (by decide) d_M_tries_116 (fun u19 => ?_)
          refine zj_iload_n d_M_tries_119 rfl ?_
          refine zj_if_lt 129 d_M_tries_120 rfl (fun _ => ?_) (fun _ => ?_)
          · exact zj_vret rfl rfl rfl rfl d_M_tries_129
          refine zj_aload_n d_M_tries_123 rfl ?_
          refine zj_iload_n d_M_tries_124 rfl ?_
          refine zj_iconst 0 d_M_tries_125 (by decide) ?_
          refine zj_cVU (ci := 9) (T := zT9) (N := 53) [.int a3, .int 0] zm_V_M_learns ml_M_312 rfl (fun _ _ h => B_M_learns g (d + 13) h) (Nat.le_refl _) ⟨Nat.zero_le _, Nat.zero_le _⟩ rfl rfl (by decide) d_M_tries_126 (fun u22 => ?_)
          exact zj_vret rfl rfl rfl rfl d_M_tries_129
        refine zj_if_ge 113 d_M_tries_73 rfl (fun _ => ?_) (fun _ => ?_)
        · refine zj_cut [some (zr g (some this)), none, some (.int a2), some (.int a3), none] ⟨rfl, ⟨rfl, ⟨rfl, trivial⟩⟩⟩ ?_
          exact hj17 u14
        refine zj_aload_n d_M_tries_76 rfl ?_
        refine zj_iload_n d_M_tries_77 rfl ?_
        refine zj_jn1 (pcj := 86) (fun x24 => [some (zr g (some this)), none, some (.int a2), some (.int a3), some (.int (v1 + x5))]) (fun x24 => [.int x24, zr g (some this)]) (fun x24 => u14) (fun x24 => ?_) (fun j25 hj25 => ?_)
        · refine zj_putI fl_M_299 (fun _ _ _ _ => rfl) ⟨rfl, rfl⟩ d_M_tries_86 (fun u26 => ?_)
          refine zj_aload_n d_M_tries_89 rfl ?_
          refine zj_iload d_M_tries_90 rfl ?_
          refine zj_putI fl_M_302 (fun _ _ _ _ => rfl) ⟨rfl, rfl⟩ d_M_tries_92 (fun u27 => ?_)
          refine zj_aload_n d_M_tries_95 rfl ?_
          refine zj_iload_n d_M_tries_96 rfl ?_
          refine zj_if_ge 104 d_M_tries_97 rfl (fun _ => ?_) (fun _ => ?_)
          · refine zj_bipush 100 d_M_tries_104 (by decide) ?_
            refine zj_iload_n d_M_tries_106 rfl ?_
            refine zj_imul d_M_tries_107 ?_
            refine zj_iload_n d_M_tries_108 rfl ?_
            refine zj_iadd d_M_tries_109 ?_
            refine zj_putI fl_M_305 (fun _ _ _ _ => rfl) ⟨rfl, rfl⟩ d_M_tries_110 (fun u28 => ?_)
            refine zj_cut [some (zr g (some this)), none, some (.int a2), some (.int a3), none] ⟨rfl, ⟨rfl, ⟨rfl, trivial⟩⟩⟩ ?_
            exact hj17 u28
          refine zj_iload_n d_M_tries_100 rfl ?_
          refine zj_goto 110 d_M_tries_101 rfl ?_
          refine zj_putI fl_M_305 (fun _ _ _ _ => rfl) ⟨rfl, rfl⟩ d_M_tries_110 (fun u29 => ?_)
          refine zj_cut [some (zr g (some this)), none, some (.int a2), some (.int a3), none] ⟨rfl, ⟨rfl, ⟨rfl, trivial⟩⟩⟩ ?_
          exact hj17 u29
        refine zj_if_ge 85 d_M_tries_78 rfl (fun _ => ?_) (fun _ => ?_)
        · refine zj_iconst 2 d_M_tries_85 (by decide) ?_
          refine zj_cut [some (zr g (some this)), none, some (.int a2), some (.int a3), some (.int (v1 + x5))] ⟨rfl, ⟨rfl, ⟨rfl, ⟨rfl, trivial⟩⟩⟩⟩ ?_
          exact hj25 2
        refine zj_iconst 1 d_M_tries_81 (by decide) ?_
        refine zj_goto 86 d_M_tries_82 rfl ?_
        refine zj_cut [some (zr g (some this)), none, some (.int a2), some (.int a3), some (.int (v1 + x5))] ⟨rfl, ⟨rfl, ⟨rfl, ⟨rfl, trivial⟩⟩⟩⟩ ?_
        exact hj25 1
      refine zj_if_lt 68 d_M_tries_59 rfl (fun _ => ?_) (fun _ => ?_)
      · exact hj12 u9
      refine zj_aload_n d_M_tries_62 rfl ?_
      refine zj_iload_n d_M_tries_63 rfl ?_
      refine zj_iconst 1 d_M_tries_64 (by decide) ?_
      refine zj_cVU (ci := 9) (T := zT9) (N := 53) [.int a3, .int 1] zm_V_M_learns ml_M_312 rfl (fun _ _ h => B_M_learns g (d + 13) h) (Nat.le_refl _) ⟨Nat.zero_le _, Nat.zero_le _⟩ rfl rfl (by decide) d_M_tries_65 (fun u31 => ?_)
      exact hj12 u31
    refine zj_iload d_M_tries_42 rfl ?_
    refine zj_aload_n d_M_tries_44 rfl ?_
    refine zj_getI fl_M_302 (fun _ _ _ _ => rfl) d_M_tries_45 (fun v33 => ?_)
    refine zj_icmp_lt 52 d_M_tries_48 rfl (fun _ => ?_) (fun _ => ?_)
    · refine zj_aload_n d_M_tries_52 rfl ?_
      refine zj_iload_n d_M_tries_53 rfl ?_
      refine zj_iconst 1 d_M_tries_54 (by decide) ?_
      refine zj_cVU (ci := 9) (T := zT9) (N := 53) [.int a2, .int 1] zm_V_M_learns ml_M_312 rfl (fun _ _ h => B_M_learns g (d + 13) h) (Nat.le_refl _) ⟨Nat.zero_le _, Nat.zero_le _⟩ rfl rfl (by decide) d_M_tries_55 (fun u35 => ?_)
      refine zj_iload_n d_M_tries_58 rfl ?_
      refine zj_jn1 (pcj := 68) (fun u37 => [some (zr g (some this)), some (.int a1), some (.int a2), some (.int a3), some (.int (v1 + x5))]) (fun u37 => []) (fun u37 => u37) (fun u37 => ?_) (fun j38 hj38 => ?_)
      · refine zj_aload_n d_M_tries_68 rfl ?_
        refine zj_iload_n d_M_tries_69 rfl ?_
        refine zj_cVI (ci := 9) (T := zT9) (N := 53) [.int a1] zm_V_M_worstOf ml_M_296 rfl (fun _ _ h => B_M_worstOf g (d) h) (Nat.le_refl _) ⟨Nat.zero_le _, Nat.zero_le _⟩ rfl rfl (by decide) d_M_tries_70 (fun v39 u40 => ?_)
        refine zj_jn1 (pcj := 113) (fun u42 => [some (zr g (some this)), none, some (.int a2), some (.int a3), none]) (fun u42 => []) (fun u42 => u42) (fun u42 => ?_) (fun j43 hj43 => ?_)
        · refine zj_aload_n d_M_tries_113 rfl ?_
          refine zj_iload_n d_M_tries_114 rfl ?_
          refine zj_iconst 0 d_M_tries_115 (by decide) ?_
          refine zj_cVU (ci := 9) (T := zT9) (N := 53) [.int a2, .int 0] zm_V_M_learns ml_M_312 rfl (fun _ _ h => B_M_learns g (d + 13) h) (Nat.le_refl _) ⟨Nat.zero_le _, Nat.zero_le _⟩ rfl rfl (by decide) d_M_tries_116 (fun u45 => ?_)
          refine zj_iload_n d_M_tries_119 rfl ?_
          refine zj_if_lt 129 d_M_tries_120 rfl (fun _ => ?_) (fun _ => ?_)
          · exact zj_vret rfl rfl rfl rfl d_M_tries_129
          refine zj_aload_n d_M_tries_123 rfl ?_
          refine zj_iload_n d_M_tries_124 rfl ?_
          refine zj_iconst 0 d_M_tries_125 (by decide) ?_
          refine zj_cVU (ci := 9) (T := zT9) (N := 53) [.int a3, .int 0] zm_V_M_learns ml_M_312 rfl (fun _ _ h => B_M_learns g (d + 13) h) (Nat.le_refl _) ⟨Nat.zero_le _, Nat.zero_le _⟩ rfl rfl (by decide) d_M_tries_126 (fun u48 => ?_)
          exact zj_vret rfl rfl rfl rfl d_M_tries_129
        refine zj_if_ge 113 d_M_tries_73 rfl (fun _ => ?_) (fun _ => ?_)
        · refine zj_cut [some (zr g (some this)), none, some (.int a2), some (.int a3), none] ⟨rfl, ⟨rfl, ⟨rfl, trivial⟩⟩⟩ ?_
          exact hj43 u40
        refine zj_aload_n d_M_tries_76 rfl ?_
        refine zj_iload_n d_M_tries_77 rfl ?_
        refine zj_jn1 (pcj := 86) (fun x50 => [some (zr g (some this)), none, some (.int a2), some (.int a3), some (.int (v1 + x5))]) (fun x50 => [.int x50, zr g (some this)]) (fun x50 => u40) (fun x50 => ?_) (fun j51 hj51 => ?_)
        · refine zj_putI fl_M_299 (fun _ _ _ _ => rfl) ⟨rfl, rfl⟩ d_M_tries_86 (fun u52 => ?_)
          refine zj_aload_n d_M_tries_89 rfl ?_
          refine zj_iload d_M_tries_90 rfl ?_
          refine zj_putI fl_M_302 (fun _ _ _ _ => rfl) ⟨rfl, rfl⟩ d_M_tries_92 (fun u53 => ?_)
          refine zj_aload_n d_M_tries_95 rfl ?_
          refine zj_iload_n d_M_tries_96 rfl ?_
          refine zj_if_ge 104 d_M_tries_97 rfl (fun _ => ?_) (fun _ => ?_)
          · refine zj_bipush 100 d_M_tries_104 (by decide) ?_
            refine zj_iload_n d_M_tries_106 rfl ?_
            refine zj_imul d_M_tries_107 ?_
            refine zj_iload_n d_M_tries_108 rfl ?_
            refine zj_iadd d_M_tries_109 ?_
            refine zj_putI fl_M_305 (fun _ _ _ _ => rfl) ⟨rfl, rfl⟩ d_M_tries_110 (fun u54 => ?_)
            refine zj_cut [some (zr g (some this)), none, some (.int a2), some (.int a3), none] ⟨rfl, ⟨rfl, ⟨rfl, trivial⟩⟩⟩ ?_
            exact hj43 u54
          refine zj_iload_n d_M_tries_100 rfl ?_
          refine zj_goto 110 d_M_tries_101 rfl ?_
          refine zj_putI fl_M_305 (fun _ _ _ _ => rfl) ⟨rfl, rfl⟩ d_M_tries_110 (fun u55 => ?_)
          refine zj_cut [some (zr g (some this)), none, some (.int a2), some (.int a3), none] ⟨rfl, ⟨rfl, ⟨rfl, trivial⟩⟩⟩ ?_
          exact hj43 u55
        refine zj_if_ge 85 d_M_tries_78 rfl (fun _ => ?_) (fun _ => ?_)
        · refine zj_iconst 2 d_M_tries_85 (by decide) ?_
          refine zj_cut [some (zr g (some this)), none, some (.int a2), some (.int a3), some (.int (v1 + x5))] ⟨rfl, ⟨rfl, ⟨rfl, ⟨rfl, trivial⟩⟩⟩⟩ ?_
          exact hj51 2
        refine zj_iconst 1 d_M_tries_81 (by decide) ?_
        refine zj_goto 86 d_M_tries_82 rfl ?_
        refine zj_cut [some (zr g (some this)), none, some (.int a2), some (.int a3), some (.int (v1 + x5))] ⟨rfl, ⟨rfl, ⟨rfl, ⟨rfl, trivial⟩⟩⟩⟩ ?_
        exact hj51 1
      refine zj_if_lt 68 d_M_tries_59 rfl (fun _ => ?_) (fun _ => ?_)
      · exact hj38 u35
      refine zj_aload_n d_M_tries_62 rfl ?_
      refine zj_iload_n d_M_tries_63 rfl ?_
      refine zj_iconst 1 d_M_tries_64 (by decide) ?_
      refine zj_cVU (ci := 9) (T := zT9) (N := 53) [.int a3, .int 1] zm_V_M_learns ml_M_312 rfl (fun _ _ h => B_M_learns g (d + 13) h) (Nat.le_refl _) ⟨Nat.zero_le _, Nat.zero_le _⟩ rfl rfl (by decide) d_M_tries_65 (fun u57 => ?_)
      exact hj38 u57
    exact zj_vret rfl rfl rfl rfl d_M_tries_51
  refine zj_if_ge 20 d_M_tries_13 rfl (fun _ => ?_) (fun _ => ?_)
  · refine zj_aload_n d_M_tries_20 rfl ?_
    refine zj_iload_n d_M_tries_21 rfl ?_
    refine zj_bipush 10 d_M_tries_22 (by decide) ?_
    refine zj_idiv d_M_tries_24 (by decide) ?_
    refine zj_iload_n d_M_tries_25 rfl ?_
    refine zj_bipush 10 d_M_tries_26 (by decide) ?_
    refine zj_irem d_M_tries_28 (by decide) ?_
    refine zj_cVI (ci := 9) (T := zT9) (N := 53) [.int (a3 / 10), .int (a3 - a3 / 10 * 10)] zm_V_M_costOf ml_M_156 rfl (fun _ _ h => B_M_costOf g (d + 11) h) (Nat.le_refl _) ⟨Nat.zero_le _, Nat.zero_le _⟩ rfl rfl (by simp [zcI, zcJ]) d_M_tries_29 (fun v59 u60 => ?_)
    exact hj6 u60 v59
  refine zj_iconst 0 d_M_tries_16 (by decide) ?_
  refine zj_goto 32 d_M_tries_17 rfl ?_
  exact hj6 u2 0
def F_M_worst (u0 : zS) (this : Nat) (a1 : Int32) (a2 : Int32) : Option (Int32 × zS) := (F_M_in u0 ((a1 : Int32).toInt64) 0 7).bind fun v1 => if v1 = 0 then (some ((-2), u0)) else ((F_M_in u0 ((a2 : Int32).toInt64) 0 1).bind fun v2 => if v2 = 0 then (some ((-2), u0)) else ((zob u0 9 (some this)).bind fun q5 => (F_M_findCan u0 q5 ).bind fun u4 => if a2 = 0 then ((zob u4 9 (some this)).bind fun q24 => (F_M_worstOf u4 q24 a1).bind <| zk fun v22 u23 => some (v22, u23)) else ((zob u4 9 (some this)).bind fun q8 => (F_M_findComes u4 q8 ).bind fun u7 => zfix4 (fun (r9 : zS → Int32 → Int32 → Int32 → Option (Int32 × zS)) (u10 : zS) (x11 : Int32) (x12 : Int32) (x13 : Int32) => (zgI u10 9 (some this) 4).bind fun v14 => if ((1 : Int32) <<< (v14 &&& 31)) ≤ x13 then (some (x11, u10)) else ((F_M_bitsOf u10 x13).bind fun v15 => if v15 = a1 then ((zob u10 9 (some this)).bind fun q18 => (F_M_findBest u10 q18 x13).bind <| zk fun v16 u17 => if v16 = 0 then (r9 u17 x11 x12 (x13 + 1)) else (if x11 < 0 then ((zgI u17 9 (some this) 36).bind fun v19 => r9 u17 x13 v19 (x13 + 1)) else ((zgI u17 9 (some this) 36).bind fun v20 => if x12 ≤ v20 then (r9 u17 x11 x12 (x13 + 1)) else ((zgI u17 9 (some this) 36).bind fun v21 => r9 u17 x13 v21 (x13 + 1))))) else (r9 u10 x11 x12 (x13 + 1)))) zFU u7 (-1) 0 0)))
set_option maxHeartbeats 4000000 in
set_option maxRecDepth 100000 in
theorem B_M_worst (g : zG) (d : Nat) {u0 : zS} {this : Nat} {a1 : Int32} {a2 : Int32} {o : Int32 × zS} (h : F_M_worst u0 this a1 a2 = some o) : zMt g zy_M_worst (d + 15) 0 0 [zr g (some this), .int a1, .int a2] u0 (some (.int o.1)) o.2 := by
  refine zMt_of2 (ls := [some (zr g (some this)), some (.int a1), some (.int a2), none, none, none]) 3 (by decide +kernel) (by simp [lg_sl, zr_cat, zcI, zcJ]) (by simp [zal, zr_cat, zcI, zcJ, List.replicate]) ?_
  revert h
  show zJ g zy_M_worst (d + 15) 0 0 zwI o 0 0 0 [some (zr g (some this)), some (.int a1), some (.int a2), none, none, none] [] u0 (F_M_worst u0 this a1 a2)
  unfold F_M_worst
  refine zj_iload_n d_M_worst_0 rfl ?_
  refine zj_i2l d_M_worst_1 ?_
  refine zj_lconst 0 d_M_worst_2 (by decide) ?_
  refine zj_ldc2 cl_M_294 d_M_worst_3 ?_
  refine zj_cSIp [.long ((a1 : Int32).toInt64), .long 0, .long 7] zm_S_M_in ml_M_109 (fun _ h => B_M_in g (d + 13) h) (Nat.le_refl _) ⟨Nat.zero_le _, Nat.zero_le _⟩ rfl rfl (by decide) d_M_worst_6 (fun v1 => ?_)
  refine zj_if_eq 22 d_M_worst_9 rfl (fun _ => ?_) (fun _ => ?_)
  · refine zj_bipush (-2) d_M_worst_22 (by decide) ?_
    exact zj_iret rfl rfl rfl rfl d_M_worst_24
  refine zj_iload_n d_M_worst_12 rfl ?_
  refine zj_i2l d_M_worst_13 ?_
  refine zj_lconst 0 d_M_worst_14 (by decide) ?_
  refine zj_lconst 1 d_M_worst_15 (by decide) ?_
  refine zj_cSIp [.long ((a2 : Int32).toInt64), .long 0, .long 1] zm_S_M_in ml_M_109 (fun _ h => B_M_in g (d + 13) h) (Nat.le_refl _) ⟨Nat.zero_le _, Nat.zero_le _⟩ rfl rfl (by decide) d_M_worst_16 (fun v2 => ?_)
  refine zj_if_ne 25 d_M_worst_19 rfl (fun _ => ?_) (fun _ => ?_)
  · refine zj_aload_n d_M_worst_25 rfl ?_
    refine zj_cVU (ci := 9) (T := zT9) (N := 53) [] zm_V_M_findCan ml_M_279 rfl (fun _ _ h => B_M_findCan g (d + 11) h) (Nat.le_refl _) ⟨Nat.zero_le _, Nat.zero_le _⟩ rfl rfl (by decide) d_M_worst_26 (fun u4 => ?_)
    refine zj_iload_n d_M_worst_29 rfl ?_
    refine zj_if_ne 39 d_M_worst_30 rfl (fun _ => ?_) (fun _ => ?_)
    · refine zj_aload_n d_M_worst_39 rfl ?_
      refine zj_cVU (ci := 9) (T := zT9) (N := 53) [] zm_V_M_findComes ml_M_282 rfl (fun _ _ h => B_M_findComes g (d + 10) h) (Nat.le_refl _) ⟨Nat.zero_le _, Nat.zero_le _⟩ rfl rfl (by decide) d_M_worst_40 (fun u7 => ?_)
      refine zj_iconst (-1) d_M_worst_43 (by decide) ?_
      refine zj_istore_n [some (zr g (some this)), some (.int a1), some (.int a2), some (.int (-1)), none, none] d_M_worst_44 (by decide) rfl rfl ?_
      refine zj_iconst 0 d_M_worst_45 (by decide) ?_
      refine zj_istore [some (zr g (some this)), some (.int a1), some (.int a2), some (.int (-1)), some (.int 0), none] d_M_worst_46 (by decide) rfl rfl ?_
      refine zj_iconst 0 d_M_worst_48 (by decide) ?_
      refine zj_istore [some (zr g (some this)), some (.int a1), some (.int a2), some (.int (-1)), some (.int 0), some (.int 0)] d_M_worst_49 (by decide) rfl rfl ?_
      refine zj_cut [some (zr g (some this)), some (.int a1), none, some (.int (-1)), some (.int 0), some (.int 0)] ⟨rfl, ⟨rfl, ⟨rfl, ⟨rfl, ⟨rfl, trivial⟩⟩⟩⟩⟩ ?_
      refine zj_fix4 (fun u10 x11 x12 x13 => [some (zr g (some this)), some (.int a1), none, some (.int x11), some (.int x12), some (.int x13)]) (fun u10 x11 x12 x13 => u10) (fun r9 hr9 u10 x11 x12 x13 => ?_) u7 (-1) 0 0
      refine zj_iload d_M_worst_51 rfl ?_
      refine zj_iconst 1 d_M_worst_53 (by decide) ?_
      refine zj_aload_n d_M_worst_54 rfl ?_
      refine zj_getI fl_M_113 (fun _ _ _ _ => rfl) d_M_worst_55 (fun v14 => ?_)
      refine zj_ishl d_M_worst_58 ?_
      refine zj_icmp_ge 108 d_M_worst_59 rfl (fun _ => ?_) (fun _ => ?_)
      · refine zj_iload_n d_M_worst_108 rfl ?_
        exact zj_iret rfl rfl rfl rfl d_M_worst_109
      refine zj_iload d_M_worst_62 rfl ?_
      refine zj_cSIp [.int x13] zm_S_M_bitsOf ml_M_288 (fun _ h => B_M_bitsOf g (d + 13) h) (Nat.le_refl _) ⟨Nat.zero_le _, Nat.zero_le _⟩ rfl rfl (by decide) d_M_worst_64 (fun v15 => ?_)
      refine zj_iload_n d_M_worst_67 rfl ?_
      refine zj_icmp_ne 102 d_M_worst_68 rfl (fun _ => ?_) (fun _ => ?_)
      · refine zj_iinc (v := (x13 + 1)) [some (zr g (some this)), some (.int a1), none, some (.int x11), some (.int x12), some (.int (x13 + 1))] d_M_worst_102 rfl rfl (by decide) rfl rfl ?_
        refine zj_goto 51 d_M_worst_105 rfl ?_
        exact hr9 u10 x11 x12 (x13 + 1)
      refine zj_aload_n d_M_worst_71 rfl ?_
      refine zj_iload d_M_worst_72 rfl ?_
      refine zj_cVI (ci := 9) (T := zT9) (N := 53) [.int x13] zm_V_M_findBest ml_M_285 rfl (fun _ _ h => B_M_findBest g (d + 1) h) (Nat.le_refl _) ⟨Nat.zero_le _, Nat.zero_le _⟩ rfl rfl (by decide) d_M_worst_74 (fun v16 u17 => ?_)
      refine zj_if_eq 102 d_M_worst_77 rfl (fun _ => ?_) (fun _ => ?_)
      · refine zj_iinc (v := (x13 + 1)) [some (zr g (some this)), some (.int a1), none, some (.int x11), some (.int x12), some (.int (x13 + 1))] d_M_worst_102 rfl rfl (by decide) rfl rfl ?_
        refine zj_goto 51 d_M_worst_105 rfl ?_
        exact hr9 u17 x11 x12 (x13 + 1)
      refine zj_iload_n d_M_worst_80 rfl ?_
      refine zj_if_lt 93 d_M_worst_81 rfl (fun _ => ?_) (fun _ => ?_)
      · refine zj_iload d_M_worst_93 rfl ?_
        refine zj_istore_n [some (zr g (some this)), some (.int a1), none, some (.int x13), some (.int x12), some (.int x13)] d_M_worst_95 (by decide) rfl rfl ?_
        refine zj_aload_n d_M_worst_96 rfl ?_
        refine zj_getI fl_M_269 (fun _ _ _ _ => rfl) d_M_worst_97 (fun v19 => ?_)
        refine zj_istore [some (zr g (some this)), some (.int a1), none, some (.int x13), some (.int v19), some (.int x13)] d_M_worst_100 (by decide) rfl rfl ?_
        refine zj_iinc (v := (x13 + 1)) [some (zr g (some this)), some (.int a1), none, some (.int x13), some (.int v19), some (.int (x13 + 1))] d_M_worst_102 rfl rfl (by decide) rfl rfl ?_
        refine zj_goto 51 d_M_worst_105 rfl ?_
        exact hr9 u17 x13 v19 (x13 + 1)
      refine zj_aload_n d_M_worst_84 rfl ?_
      refine zj_getI fl_M_269 (fun _ _ _ _ => rfl) d_M_worst_85 (fun v20 => ?_)
      refine zj_iload d_M_worst_88 rfl ?_
      refine zj_icmp_ge 102 d_M_worst_90 rfl (fun _ => ?_) (fun _ => ?_)
      · refine zj_iinc (v := (x13 + 1)) [some (zr g (some this)), some (.int a1), none, some (.int x11), some (.int x12), some (.int (x13 + 1))] d_M_worst_102 rfl rfl (by decide) rfl rfl ?_
        refine zj_goto 51 d_M_worst_105 rfl ?_
        exact hr9 u17 x11 x12 (x13 + 1)
      refine zj_iload d_M_worst_93 rfl ?_
      refine zj_istore_n [some (zr g (some this)), some (.int a1), none, some (.int x13), some (.int x12), some (.int x13)] d_M_worst_95 (by decide) rfl rfl ?_
      refine zj_aload_n d_M_worst_96 rfl ?_
      refine zj_getI fl_M_269 (fun _ _ _ _ => rfl) d_M_worst_97 (fun v21 => ?_)
      refine zj_istore [some (zr g (some this)), some (.int a1), none, some (.int x13), some (.int v21), some (.int x13)] d_M_worst_100 (by decide) rfl rfl ?_
      refine zj_iinc (v := (x13 + 1)) [some (zr g (some this)), some (.int a1), none, some (.int x13), some (.int v21), some (.int (x13 + 1))] d_M_worst_102 rfl rfl (by decide) rfl rfl ?_
      refine zj_goto 51 d_M_worst_105 rfl ?_
      exact hr9 u17 x13 v21 (x13 + 1)
    refine zj_aload_n d_M_worst_33 rfl ?_
    refine zj_iload_n d_M_worst_34 rfl ?_
    refine zj_cVI (ci := 9) (T := zT9) (N := 53) [.int a1] zm_V_M_worstOf ml_M_296 rfl (fun _ _ h => B_M_worstOf g (d) h) (Nat.le_refl _) ⟨Nat.zero_le _, Nat.zero_le _⟩ rfl rfl (by decide) d_M_worst_35 (fun v22 u23 => ?_)
    exact zj_iret rfl rfl rfl rfl d_M_worst_38
  refine zj_bipush (-2) d_M_worst_22 (by decide) ?_
  exact zj_iret rfl rfl rfl rfl d_M_worst_24
def F_M_tryLessons (u0 : zS) (this : Nat) (a1 : Int32) (a2 : Int32) : Option (zS) := zfix2 (fun (r1 : zS → Int32 → Option (zS)) (u2 : zS) (x3 : Int32) => (zgI u2 9 (some this) 4).bind fun v4 => if ((10 : Int32) * v4) ≤ x3 then (some u2) else ((zob u2 9 (some this)).bind fun q6 => (F_M_isLesson u2 q6 x3).bind fun v5 => if v5 = 0 then (r1 u2 (x3 + 1)) else (if a2 = 1 then ((zob u2 9 (some this)).bind fun q18 => (F_M_tries u2 q18 a1 x3 (-1)).bind fun u17 => r1 u17 (x3 + 1)) else (zfix2 (fun (r7 : zS → Int32 → Option (zS)) (u8 : zS) (x9 : Int32) => (zgI u8 9 (some this) 4).bind fun v10 => if ((10 : Int32) * v10) ≤ x9 then (r1 u8 (x3 + 1)) else ((zob u8 9 (some this)).bind fun q12 => (F_M_isLesson u8 q12 x9).bind fun v11 => if v11 = 0 then (r7 u8 (x9 + 1)) else ((zob u8 9 (some this)).bind fun q15 => (F_M_tries u8 q15 a1 x3 x9).bind fun u14 => r7 u14 (x9 + 1)))) zFU u2 (x3 + 1))))) zFU u0 0
set_option maxHeartbeats 4000000 in
set_option maxRecDepth 100000 in
theorem B_M_tryLessons (g : zG) (d : Nat) {u0 : zS} {this : Nat} {a1 : Int32} {a2 : Int32} {o : zS} (h : F_M_tryLessons u0 this a1 a2 = some o) : zMt g zy_M_tryLessons (d + 16) 0 0 [zr g (some this), .int a1, .int a2] u0 none o := by
  refine zMt_of2 (ls := [some (zr g (some this)), some (.int a1), some (.int a2), none, none]) 2 (by decide +kernel) (by simp [lg_sl, zr_cat, zcI, zcJ]) (by simp [zal, zr_cat, zcI, zcJ, List.replicate]) ?_
  revert h
  show zJ g zy_M_tryLessons (d + 16) 0 0 zwV o 0 0 0 [some (zr g (some this)), some (.int a1), some (.int a2), none, none] [] u0 (F_M_tryLessons u0 this a1 a2)
  unfold F_M_tryLessons
  refine zj_iconst 0 d_M_tryLessons_0 (by decide) ?_
  refine zj_istore_n [some (zr g (some this)), some (.int a1), some (.int a2), some (.int 0), none] d_M_tryLessons_1 (by decide) rfl rfl ?_
  refine zj_fix2 (fun u2 x3 => [some (zr g (some this)), some (.int a1), some (.int a2), some (.int x3), none]) (fun u2 x3 => u2) (fun r1 hr1 u2 x3 => ?_) u0 0
  refine zj_iload_n d_M_tryLessons_2 rfl ?_
  refine zj_bipush 10 d_M_tryLessons_3 (by decide) ?_
  refine zj_aload_n d_M_tryLessons_5 rfl ?_
  refine zj_getI fl_M_113 (fun _ _ _ _ => rfl) d_M_tryLessons_6 (fun v4 => ?_)
  refine zj_imul d_M_tryLessons_9 ?_
  refine zj_icmp_ge 85 d_M_tryLessons_10 rfl (fun _ => ?_) (fun _ => ?_)
  · exact zj_vret rfl rfl rfl rfl d_M_tryLessons_85
  refine zj_aload_n d_M_tryLessons_13 rfl ?_
  refine zj_iload_n d_M_tryLessons_14 rfl ?_
  refine zj_cVIp (ci := 9) (T := zT9) (N := 53) [.int x3] zm_V_M_isLesson ml_M_316 rfl (fun _ _ h => B_M_isLesson g (d + 14) h) (Nat.le_refl _) ⟨Nat.zero_le _, Nat.zero_le _⟩ rfl rfl (by decide) d_M_tryLessons_15 (fun v5 => ?_)
  refine zj_if_ne 24 d_M_tryLessons_18 rfl (fun _ => ?_) (fun _ => ?_)
  · refine zj_iload_n d_M_tryLessons_24 rfl ?_
    refine zj_iconst 1 d_M_tryLessons_25 (by decide) ?_
    refine zj_icmp_ne 39 d_M_tryLessons_26 rfl (fun _ => ?_) (fun _ => ?_)
    · refine zj_iload_n d_M_tryLessons_39 rfl ?_
      refine zj_iconst 1 d_M_tryLessons_40 (by decide) ?_
      refine zj_iadd d_M_tryLessons_41 ?_
      refine zj_istore [some (zr g (some this)), some (.int a1), some (.int a2), some (.int x3), some (.int (x3 + 1))] d_M_tryLessons_42 (by decide) rfl rfl ?_
      refine zj_fix2 (fun u8 x9 => [some (zr g (some this)), some (.int a1), some (.int a2), some (.int x3), some (.int x9)]) (fun u8 x9 => u8) (fun r7 hr7 u8 x9 => ?_) u2 (x3 + 1)
      refine zj_iload d_M_tryLessons_44 rfl ?_
      refine zj_bipush 10 d_M_tryLessons_46 (by decide) ?_
      refine zj_aload_n d_M_tryLessons_48 rfl ?_
      refine zj_getI fl_M_113 (fun _ _ _ _ => rfl) d_M_tryLessons_49 (fun v10 => ?_)
      refine zj_imul d_M_tryLessons_52 ?_
      refine zj_icmp_ge 79 d_M_tryLessons_53 rfl (fun _ => ?_) (fun _ => ?_)
      · refine zj_iinc (v := (x3 + 1)) [some (zr g (some this)), some (.int a1), some (.int a2), some (.int (x3 + 1)), some (.int x9)] d_M_tryLessons_79 rfl rfl (by decide) rfl rfl ?_
        refine zj_goto 2 d_M_tryLessons_82 rfl ?_
        refine zj_cut [some (zr g (some this)), some (.int a1), some (.int a2), some (.int (x3 + 1)), none] ⟨rfl, ⟨rfl, ⟨rfl, ⟨rfl, trivial⟩⟩⟩⟩ ?_
        exact hr1 u8 (x3 + 1)
      refine zj_aload_n d_M_tryLessons_56 rfl ?_
      refine zj_iload d_M_tryLessons_57 rfl ?_
      refine zj_cVIp (ci := 9) (T := zT9) (N := 53) [.int x9] zm_V_M_isLesson ml_M_316 rfl (fun _ _ h => B_M_isLesson g (d + 14) h) (Nat.le_refl _) ⟨Nat.zero_le _, Nat.zero_le _⟩ rfl rfl (by decide) d_M_tryLessons_59 (fun v11 => ?_)
      refine zj_if_eq 73 d_M_tryLessons_62 rfl (fun _ => ?_) (fun _ => ?_)
      · refine zj_iinc (v := (x9 + 1)) [some (zr g (some this)), some (.int a1), some (.int a2), some (.int x3), some (.int (x9 + 1))] d_M_tryLessons_73 rfl rfl (by decide) rfl rfl ?_
        refine zj_goto 44 d_M_tryLessons_76 rfl ?_
        exact hr7 u8 (x9 + 1)
      refine zj_aload_n d_M_tryLessons_65 rfl ?_
      refine zj_iload_n d_M_tryLessons_66 rfl ?_
      refine zj_iload_n d_M_tryLessons_67 rfl ?_
      refine zj_iload d_M_tryLessons_68 rfl ?_
      refine zj_cVU (ci := 9) (T := zT9) (N := 53) [.int a1, .int x3, .int x9] zm_V_M_tries ml_M_319 rfl (fun _ _ h => B_M_tries g (d) h) (Nat.le_refl _) ⟨Nat.zero_le _, Nat.zero_le _⟩ rfl rfl (by decide) d_M_tryLessons_70 (fun u14 => ?_)
      refine zj_iinc (v := (x9 + 1)) [some (zr g (some this)), some (.int a1), some (.int a2), some (.int x3), some (.int (x9 + 1))] d_M_tryLessons_73 rfl rfl (by decide) rfl rfl ?_
      refine zj_goto 44 d_M_tryLessons_76 rfl ?_
      exact hr7 u14 (x9 + 1)
    refine zj_aload_n d_M_tryLessons_29 rfl ?_
    refine zj_iload_n d_M_tryLessons_30 rfl ?_
    refine zj_iload_n d_M_tryLessons_31 rfl ?_
    refine zj_iconst (-1) d_M_tryLessons_32 (by decide) ?_
    refine zj_cVU (ci := 9) (T := zT9) (N := 53) [.int a1, .int x3, .int (-1)] zm_V_M_tries ml_M_319 rfl (fun _ _ h => B_M_tries g (d) h) (Nat.le_refl _) ⟨Nat.zero_le _, Nat.zero_le _⟩ rfl rfl (by decide) d_M_tryLessons_33 (fun u17 => ?_)
    refine zj_goto 79 d_M_tryLessons_36 rfl ?_
    refine zj_iinc (v := (x3 + 1)) [some (zr g (some this)), some (.int a1), some (.int a2), some (.int (x3 + 1)), none] d_M_tryLessons_79 rfl rfl (by decide) rfl rfl ?_
    refine zj_goto 2 d_M_tryLessons_82 rfl ?_
    exact hr1 u17 (x3 + 1)
  refine zj_goto 79 d_M_tryLessons_21 rfl ?_
  refine zj_iinc (v := (x3 + 1)) [some (zr g (some this)), some (.int a1), some (.int a2), some (.int (x3 + 1)), none] d_M_tryLessons_79 rfl rfl (by decide) rfl rfl ?_
  refine zj_goto 2 d_M_tryLessons_82 rfl ?_
  exact hr1 u2 (x3 + 1)
def F_M_findLessons (u0 : zS) (this : Nat) (a1 : Int32) : Option (zS) := (zob u0 9 (some this)).bind fun q3 => (F_M_findCan u0 q3 ).bind fun u2 => (zpI u2 9 (some this) 38 (-1)).bind fun u4 => (zob u4 9 (some this)).bind fun q7 => (F_M_worstOf u4 q7 a1).bind <| zk fun v5 u6 => if 0 ≤ v5 then ((zob u6 9 (some this)).bind fun q10 => (F_M_tryLessons u6 q10 a1 1).bind fun u9 => (zgI u9 9 (some this) 38).bind fun v11 => if 0 ≤ v11 then (some u9) else ((zob u9 9 (some this)).bind fun q14 => (F_M_tryLessons u9 q14 a1 2).bind fun u13 => some u13)) else ((zpI u6 9 (some this) 38 0).bind fun u15 => (zpI u15 9 (some this) 39 0).bind fun u16 => (zpI u16 9 (some this) 40 0).bind fun u17 => some u17)
set_option maxHeartbeats 4000000 in
set_option maxRecDepth 100000 in
theorem B_M_findLessons (g : zG) (d : Nat) {u0 : zS} {this : Nat} {a1 : Int32} {o : zS} (h : F_M_findLessons u0 this a1 = some o) : zMt g zy_M_findLessons (d + 17) 0 0 [zr g (some this), .int a1] u0 none o := by
  refine zMt_of2 (ls := [some (zr g (some this)), some (.int a1)]) 0 (by decide +kernel) (by simp [lg_sl, zr_cat, zcI, zcJ]) (by simp [zal, zr_cat, zcI, zcJ, List.replicate]) ?_
  revert h
  show zJ g zy_M_findLessons (d + 17) 0 0 zwV o 0 0 0 [some (zr g (some this)), some (.int a1)] [] u0 (F_M_findLessons u0 this a1)
  unfold F_M_findLessons
  refine zj_aload_n d_M_findLessons_0 rfl ?_
  refine zj_cVU (ci := 9) (T := zT9) (N := 53) [] zm_V_M_findCan ml_M_279 rfl (fun _ _ h => B_M_findCan g (d + 13) h) (Nat.le_refl _) ⟨Nat.zero_le _, Nat.zero_le _⟩ rfl rfl (by decide) d_M_findLessons_1 (fun u2 => ?_)
  refine zj_aload_n d_M_findLessons_4 rfl ?_
  refine zj_iconst (-1) d_M_findLessons_5 (by decide) ?_
  refine zj_putI fl_M_299 (fun _ _ _ _ => rfl) ⟨rfl, rfl⟩ d_M_findLessons_6 (fun u4 => ?_)
  refine zj_aload_n d_M_findLessons_9 rfl ?_
  refine zj_iload_n d_M_findLessons_10 rfl ?_
  refine zj_cVI (ci := 9) (T := zT9) (N := 53) [.int a1] zm_V_M_worstOf ml_M_296 rfl (fun _ _ h => B_M_worstOf g (d + 2) h) (Nat.le_refl _) ⟨Nat.zero_le _, Nat.zero_le _⟩ rfl rfl (by decide) d_M_findLessons_11 (fun v5 u6 => ?_)
  refine zj_if_ge 33 d_M_findLessons_14 rfl (fun _ => ?_) (fun _ => ?_)
  · refine zj_aload_n d_M_findLessons_33 rfl ?_
    refine zj_iload_n d_M_findLessons_34 rfl ?_
    refine zj_iconst 1 d_M_findLessons_35 (by decide) ?_
    refine zj_cVU (ci := 9) (T := zT9) (N := 53) [.int a1, .int 1] zm_V_M_tryLessons ml_M_308 rfl (fun _ _ h => B_M_tryLessons g (d) h) (Nat.le_refl _) ⟨Nat.zero_le _, Nat.zero_le _⟩ rfl rfl (by decide) d_M_findLessons_36 (fun u9 => ?_)
    refine zj_aload_n d_M_findLessons_39 rfl ?_
    refine zj_getI fl_M_299 (fun _ _ _ _ => rfl) d_M_findLessons_40 (fun v11 => ?_)
    refine zj_if_ge 52 d_M_findLessons_43 rfl (fun _ => ?_) (fun _ => ?_)
    · exact zj_vret rfl rfl rfl rfl d_M_findLessons_52
    refine zj_aload_n d_M_findLessons_46 rfl ?_
    refine zj_iload_n d_M_findLessons_47 rfl ?_
    refine zj_iconst 2 d_M_findLessons_48 (by decide) ?_
    refine zj_cVU (ci := 9) (T := zT9) (N := 53) [.int a1, .int 2] zm_V_M_tryLessons ml_M_308 rfl (fun _ _ h => B_M_tryLessons g (d) h) (Nat.le_refl _) ⟨Nat.zero_le _, Nat.zero_le _⟩ rfl rfl (by decide) d_M_findLessons_49 (fun u13 => ?_)
    exact zj_vret rfl rfl rfl rfl d_M_findLessons_52
  refine zj_aload_n d_M_findLessons_17 rfl ?_
  refine zj_iconst 0 d_M_findLessons_18 (by decide) ?_
  refine zj_putI fl_M_299 (fun _ _ _ _ => rfl) ⟨rfl, rfl⟩ d_M_findLessons_19 (fun u15 => ?_)
  refine zj_aload_n d_M_findLessons_22 rfl ?_
  refine zj_iconst 0 d_M_findLessons_23 (by decide) ?_
  refine zj_putI fl_M_302 (fun _ _ _ _ => rfl) ⟨rfl, rfl⟩ d_M_findLessons_24 (fun u16 => ?_)
  refine zj_aload_n d_M_findLessons_27 rfl ?_
  refine zj_iconst 0 d_M_findLessons_28 (by decide) ?_
  refine zj_putI fl_M_305 (fun _ _ _ _ => rfl) ⟨rfl, rfl⟩ d_M_findLessons_29 (fun u17 => ?_)
  exact zj_vret rfl rfl rfl rfl d_M_findLessons_32
def F_M_lessons (u0 : zS) (this : Nat) (a1 : Int32) (a2 : Int32) : Option (Int32 × zS) := (F_M_in u0 ((a1 : Int32).toInt64) 0 2).bind fun v1 => if v1 = 0 then (some ((-2), u0)) else ((F_M_in u0 ((a2 : Int32).toInt64) 0 2).bind fun v2 => if v2 = 0 then (some ((-2), u0)) else ((zob u0 9 (some this)).bind fun q5 => (F_M_findLessons u0 q5 a1).bind fun u4 => (zgI u4 9 (some this) 38).bind fun v6 => if 0 ≤ v6 then (if a2 = 0 then ((zgI u4 9 (some this) 38).bind fun v9 => some (v9, u4)) else (if a2 = 1 then ((zgI u4 9 (some this) 39).bind fun v8 => some (v8, u4)) else ((zgI u4 9 (some this) 40).bind fun v7 => some (v7, u4)))) else (some ((-1), u4))))
set_option maxHeartbeats 4000000 in
set_option maxRecDepth 100000 in
theorem B_M_lessons (g : zG) (d : Nat) {u0 : zS} {this : Nat} {a1 : Int32} {a2 : Int32} {o : Int32 × zS} (h : F_M_lessons u0 this a1 a2 = some o) : zMt g zy_M_lessons (d + 18) 0 0 [zr g (some this), .int a1, .int a2] u0 (some (.int o.1)) o.2 := by
  refine zMt_of2 (ls := [some (zr g (some this)), some (.int a1), some (.int a2)]) 0 (by decide +kernel) (by simp [lg_sl, zr_cat, zcI, zcJ]) (by simp [zal, zr_cat, zcI, zcJ, List.replicate]) ?_
  revert h
  show zJ g zy_M_lessons (d + 18) 0 0 zwI o 0 0 0 [some (zr g (some this)), some (.int a1), some (.int a2)] [] u0 (F_M_lessons u0 this a1 a2)
  unfold F_M_lessons
  refine zj_iload_n d_M_lessons_0 rfl ?_
  refine zj_i2l d_M_lessons_1 ?_
  refine zj_lconst 0 d_M_lessons_2 (by decide) ?_
  refine zj_ldc2 cl_M_323 d_M_lessons_3 ?_
  refine zj_cSIp [.long ((a1 : Int32).toInt64), .long 0, .long 2] zm_S_M_in ml_M_109 (fun _ h => B_M_in g (d + 16) h) (Nat.le_refl _) ⟨Nat.zero_le _, Nat.zero_le _⟩ rfl rfl (by decide) d_M_lessons_6 (fun v1 => ?_)
  refine zj_if_eq 24 d_M_lessons_9 rfl (fun _ => ?_) (fun _ => ?_)
  · refine zj_bipush (-2) d_M_lessons_24 (by decide) ?_
    exact zj_iret rfl rfl rfl rfl d_M_lessons_26
  refine zj_iload_n d_M_lessons_12 rfl ?_
  refine zj_i2l d_M_lessons_13 ?_
  refine zj_lconst 0 d_M_lessons_14 (by decide) ?_
  refine zj_ldc2 cl_M_323 d_M_lessons_15 ?_
  refine zj_cSIp [.long ((a2 : Int32).toInt64), .long 0, .long 2] zm_S_M_in ml_M_109 (fun _ h => B_M_in g (d + 16) h) (Nat.le_refl _) ⟨Nat.zero_le _, Nat.zero_le _⟩ rfl rfl (by decide) d_M_lessons_18 (fun v2 => ?_)
  refine zj_if_ne 27 d_M_lessons_21 rfl (fun _ => ?_) (fun _ => ?_)
  · refine zj_aload_n d_M_lessons_27 rfl ?_
    refine zj_iload_n d_M_lessons_28 rfl ?_
    refine zj_cVU (ci := 9) (T := zT9) (N := 53) [.int a1] zm_V_M_findLessons ml_M_325 rfl (fun _ _ h => B_M_findLessons g (d) h) (Nat.le_refl _) ⟨Nat.zero_le _, Nat.zero_le _⟩ rfl rfl (by decide) d_M_lessons_29 (fun u4 => ?_)
    refine zj_aload_n d_M_lessons_32 rfl ?_
    refine zj_getI fl_M_299 (fun _ _ _ _ => rfl) d_M_lessons_33 (fun v6 => ?_)
    refine zj_if_ge 43 d_M_lessons_36 rfl (fun _ => ?_) (fun _ => ?_)
    · refine zj_iload_n d_M_lessons_43 rfl ?_
      refine zj_if_ne 54 d_M_lessons_44 rfl (fun _ => ?_) (fun _ => ?_)
      · refine zj_iload_n d_M_lessons_54 rfl ?_
        refine zj_iconst 1 d_M_lessons_55 (by decide) ?_
        refine zj_icmp_ne 66 d_M_lessons_56 rfl (fun _ => ?_) (fun _ => ?_)
        · refine zj_aload_n d_M_lessons_66 rfl ?_
          refine zj_getI fl_M_305 (fun _ _ _ _ => rfl) d_M_lessons_67 (fun v7 => ?_)
          exact zj_iret rfl rfl rfl rfl d_M_lessons_70
        refine zj_aload_n d_M_lessons_59 rfl ?_
        refine zj_getI fl_M_302 (fun _ _ _ _ => rfl) d_M_lessons_60 (fun v8 => ?_)
        refine zj_goto 70 d_M_lessons_63 rfl ?_
        exact zj_iret rfl rfl rfl rfl d_M_lessons_70
      refine zj_aload_n d_M_lessons_47 rfl ?_
      refine zj_getI fl_M_299 (fun _ _ _ _ => rfl) d_M_lessons_48 (fun v9 => ?_)
      refine zj_goto 70 d_M_lessons_51 rfl ?_
      exact zj_iret rfl rfl rfl rfl d_M_lessons_70
    refine zj_iconst (-1) d_M_lessons_39 (by decide) ?_
    refine zj_goto 70 d_M_lessons_40 rfl ?_
    exact zj_iret rfl rfl rfl rfl d_M_lessons_70
  refine zj_bipush (-2) d_M_lessons_24 (by decide) ?_
  exact zj_iret rfl rfl rfl rfl d_M_lessons_26
def F_M_text (u0 : zS) (this : Nat) : Option (Int32 × zS) := (zgI u0 9 (some this) 16).bind fun v1 => if v1 = 6 then (some ((-4), u0)) else ((zpI u0 9 (some this) 23 0).bind fun u2 => (zpI u2 9 (some this) 26 0).bind fun u3 => (zpZ u3 9 (some this) 27 0).bind fun u4 => (zgI u4 9 (some this) 16).bind fun v5 => (zpI u4 9 (some this) 21 ((510 : Int32) * v5)).bind fun u6 => (zob u6 9 (some this)).bind fun q9 => (F_M_next u6 q9 ).bind fun u8 => zfix2 (fun (r10 : zS → Int32 → Option (Int32 × zS)) (u11 : zS) (x12 : Int32) => if 3 ≤ x12 then ((zgI u11 9 (some this) 27).bind fun v13 => zjn1 (fun (j15 : zS → Option (Int32 × zS)) => if v13 = 0 then ((zgI u11 9 (some this) 24).bind fun v22 => if v22 = 0 then (j15 u11) else ((zob u11 9 (some this)).bind fun q25 => (F_M_wrong u11 q25 ).bind fun u24 => j15 u24)) else (j15 u11)) (fun (u14 : zS) => (zpI u14 9 (some this) 15 0).bind fun u16 => (zgI u16 9 (some this) 27).bind fun v17 => if v17 = 0 then ((zgI u16 9 (some this) 16).bind fun v18 => (zpI u16 9 (some this) 16 (v18 + 1)).bind fun u19 => (zgI u19 9 (some this) 16).bind fun v20 => some ((v20 - 1), u19)) else ((zgI u16 9 (some this) 28).bind fun v21 => some (((-100 : Int32) - v21), u16)))) else ((zgI u11 9 (some this) 27).bind fun v26 => if v26 = 0 then ((zob u11 9 (some this)).bind fun q41 => (F_M_isKey u11 q41 x12).bind fun v40 => if v40 = 0 then ((zob u11 9 (some this)).bind fun q66 => (F_M_wrong u11 q66 ).bind fun u65 => (zgI u65 9 (some this) 27).bind fun v67 => zjn1 (fun (j69 : zS → Option (Int32 × zS)) => if v67 = 0 then ((zgI u65 9 (some this) 24).bind fun v76 => if v76 = 0 then (j69 u65) else ((zob u65 9 (some this)).bind fun q79 => (F_M_wrong u65 q79 ).bind fun u78 => j69 u78)) else (j69 u65)) (fun (u68 : zS) => (zpI u68 9 (some this) 15 0).bind fun u70 => (zgI u70 9 (some this) 27).bind fun v71 => if v71 = 0 then ((zgI u70 9 (some this) 16).bind fun v72 => (zpI u70 9 (some this) 16 (v72 + 1)).bind fun u73 => (zgI u73 9 (some this) 16).bind fun v74 => some ((v74 - 1), u73)) else ((zgI u70 9 (some this) 28).bind fun v75 => some (((-100 : Int32) - v75), u70)))) else ((zob u11 9 (some this)).bind fun q44 => (F_M_next u11 q44 ).bind fun u43 => (zgR u43 9 (some this) 19).bind fun v45 => (zgI u43 9 (some this) 16).bind fun v46 => (zgI u43 9 (some this) 21).bind fun v47 => (zsI u43 v45 (((3 : Int32) * v46) + x12) v47).bind fun u48 => (zob u48 9 (some this)).bind fun q51 => (GM 60 5 u48 q51 ).bind fun u50 => (zgR u50 9 (some this) 20).bind fun v52 => (zgI u50 9 (some this) 16).bind fun v53 => (zgI u50 9 (some this) 21).bind fun v54 => (zsI u50 v52 (((3 : Int32) * v53) + x12) v54).bind fun u55 => (zob u55 9 (some this)).bind fun q57 => (F_M_isSign u55 q57 59).bind fun v56 => if v56 = 0 then ((zob u55 9 (some this)).bind fun q60 => (F_M_wrong u55 q60 ).bind fun u59 => r10 u59 (x12 + 1)) else ((zob u55 9 (some this)).bind fun q63 => (F_M_next u55 q63 ).bind fun u62 => r10 u62 (x12 + 1)))) else ((zgI u11 9 (some this) 27).bind fun v27 => zjn1 (fun (j29 : zS → Option (Int32 × zS)) => if v27 = 0 then ((zgI u11 9 (some this) 24).bind fun v36 => if v36 = 0 then (j29 u11) else ((zob u11 9 (some this)).bind fun q39 => (F_M_wrong u11 q39 ).bind fun u38 => j29 u38)) else (j29 u11)) (fun (u28 : zS) => (zpI u28 9 (some this) 15 0).bind fun u30 => (zgI u30 9 (some this) 27).bind fun v31 => if v31 = 0 then ((zgI u30 9 (some this) 16).bind fun v32 => (zpI u30 9 (some this) 16 (v32 + 1)).bind fun u33 => (zgI u33 9 (some this) 16).bind fun v34 => some ((v34 - 1), u33)) else ((zgI u30 9 (some this) 28).bind fun v35 => some (((-100 : Int32) - v35), u30)))))) zFU u8 0)
set_option maxHeartbeats 4000000 in
set_option maxRecDepth 100000 in
theorem B_M_text (g : zG) (d : Nat) {u0 : zS} {this : Nat} {o : Int32 × zS} (h : F_M_text u0 this = some o) : zMt g zy_M_text (d + 71) 0 0 [zr g (some this)] u0 (some (.int o.1)) o.2 := by
  refine zMt_of2 (ls := [some (zr g (some this)), none]) 1 (by decide +kernel) (by simp [lg_sl, zr_cat, zcI, zcJ]) (by simp [zal, zr_cat, zcI, zcJ, List.replicate]) ?_
  revert h
  show zJ g zy_M_text (d + 71) 0 0 zwI o 0 0 0 [some (zr g (some this)), none] [] u0 (F_M_text u0 this)
  unfold F_M_text
  refine zj_aload_n d_M_text_0 rfl ?_
  refine zj_getI fl_M_103 (fun _ _ _ _ => rfl) d_M_text_1 (fun v1 => ?_)
  refine zj_bipush 6 d_M_text_4 (by decide) ?_
  refine zj_icmp_ne 12 d_M_text_6 rfl (fun _ => ?_) (fun _ => ?_)
  · refine zj_aload_n d_M_text_12 rfl ?_
    refine zj_iconst 0 d_M_text_13 (by decide) ?_
    refine zj_putI fl_M_169 (fun _ _ _ _ => rfl) ⟨rfl, rfl⟩ d_M_text_14 (fun u2 => ?_)
    refine zj_aload_n d_M_text_17 rfl ?_
    refine zj_iconst 0 d_M_text_18 (by decide) ?_
    refine zj_putI fl_M_212 (fun _ _ _ _ => rfl) ⟨rfl, rfl⟩ d_M_text_19 (fun u3 => ?_)
    refine zj_aload_n d_M_text_22 rfl ?_
    refine zj_iconst 0 d_M_text_23 (by decide) ?_
    refine zj_putZ fl_M_202 d_M_text_24 (fun u4 => ?_)
    refine zj_aload_n d_M_text_27 rfl ?_
    refine zj_sipush 510 d_M_text_28 (by decide) ?_
    refine zj_aload_n d_M_text_31 rfl ?_
    refine zj_getI fl_M_103 (fun _ _ _ _ => rfl) d_M_text_32 (fun v5 => ?_)
    refine zj_imul d_M_text_35 ?_
    refine zj_putI fl_M_209 (fun _ _ _ _ => rfl) ⟨rfl, rfl⟩ d_M_text_36 (fun u6 => ?_)
    refine zj_aload_n d_M_text_39 rfl ?_
    refine zj_cVU (ci := 9) (T := zT9) (N := 53) [] zm_V_M_next ml_M_218 rfl (fun _ _ h => B_M_next g (d + 67) h) (Nat.le_refl _) ⟨Nat.zero_le _, Nat.zero_le _⟩ rfl rfl (by decide) d_M_text_40 (fun u8 => ?_)
    refine zj_iconst 0 d_M_text_43 (by decide) ?_
    refine zj_istore_n [some (zr g (some this)), some (.int 0)] d_M_text_44 (by decide) rfl rfl ?_
    refine zj_fix2 (fun u11 x12 => [some (zr g (some this)), some (.int x12)]) (fun u11 x12 => u11) (fun r10 hr10 u11 x12 => ?_) u8 0
    refine zj_iload_n d_M_text_45 rfl ?_
    refine zj_iconst 3 d_M_text_46 (by decide) ?_
    refine zj_icmp_ge 140 d_M_text_47 rfl (fun _ => ?_) (fun _ => ?_)
    · refine zj_aload_n d_M_text_140 rfl ?_
      refine zj_getI fl_M_202 (fun _ _ _ _ => rfl) d_M_text_141 (fun v13 => ?_)
      refine zj_jn1 (pcj := 158) (fun u14 => [some (zr g (some this)), none]) (fun u14 => []) (fun u14 => u14) (fun u14 => ?_) (fun j15 hj15 => ?_)
      · refine zj_aload_n d_M_text_158 rfl ?_
        refine zj_iconst 0 d_M_text_159 (by decide) ?_
        refine zj_putI fl_M_161 (fun _ _ _ _ => rfl) ⟨rfl, rfl⟩ d_M_text_160 (fun u16 => ?_)
        refine zj_aload_n d_M_text_163 rfl ?_
        refine zj_getI fl_M_202 (fun _ _ _ _ => rfl) d_M_text_164 (fun v17 => ?_)
        refine zj_if_eq 178 d_M_text_167 rfl (fun _ => ?_) (fun _ => ?_)
        · refine zj_aload_n d_M_text_178 rfl ?_
          refine zj_dup d_M_text_179 (zr_cat _ _) ?_
          refine zj_getI fl_M_103 (fun _ _ _ _ => rfl) d_M_text_180 (fun v18 => ?_)
          refine zj_iconst 1 d_M_text_183 (by decide) ?_
          refine zj_iadd d_M_text_184 ?_
          refine zj_putI fl_M_103 (fun _ _ _ _ => rfl) ⟨rfl, rfl⟩ d_M_text_185 (fun u19 => ?_)
          refine zj_aload_n d_M_text_188 rfl ?_
          refine zj_getI fl_M_103 (fun _ _ _ _ => rfl) d_M_text_189 (fun v20 => ?_)
          refine zj_iconst 1 d_M_text_192 (by decide) ?_
          refine zj_isub d_M_text_193 ?_
          exact zj_iret rfl rfl rfl rfl d_M_text_194
        refine zj_bipush (-100) d_M_text_170 (by decide) ?_
        refine zj_aload_n d_M_text_172 rfl ?_
        refine zj_getI fl_M_206 (fun _ _ _ _ => rfl) d_M_text_173 (fun v21 => ?_)
        refine zj_isub d_M_text_176 ?_
        exact zj_iret rfl rfl rfl rfl d_M_text_177
      refine zj_if_ne 158 d_M_text_144 rfl (fun _ => ?_) (fun _ => ?_)
      · refine zj_cut [some (zr g (some this)), none] ⟨rfl, trivial⟩ ?_
        exact hj15 u11
      refine zj_aload_n d_M_text_147 rfl ?_
      refine zj_getI fl_M_183 (fun _ _ _ _ => rfl) d_M_text_148 (fun v22 => ?_)
      refine zj_if_eq 158 d_M_text_151 rfl (fun _ => ?_) (fun _ => ?_)
      · refine zj_cut [some (zr g (some this)), none] ⟨rfl, trivial⟩ ?_
        exact hj15 u11
      refine zj_aload_n d_M_text_154 rfl ?_
      refine zj_cVU (ci := 9) (T := zT9) (N := 53) [] zm_V_M_wrong ml_M_215 rfl (fun _ _ h => B_M_wrong g (d + 69) h) (Nat.le_refl _) ⟨Nat.zero_le _, Nat.zero_le _⟩ rfl rfl (by decide) d_M_text_155 (fun u24 => ?_)
      refine zj_cut [some (zr g (some this)), none] ⟨rfl, trivial⟩ ?_
      exact hj15 u24
    refine zj_aload_n d_M_text_50 rfl ?_
    refine zj_getI fl_M_202 (fun _ _ _ _ => rfl) d_M_text_51 (fun v26 => ?_)
    refine zj_if_ne 140 d_M_text_54 rfl (fun _ => ?_) (fun _ => ?_)
    · refine zj_aload_n d_M_text_140 rfl ?_
      refine zj_getI fl_M_202 (fun _ _ _ _ => rfl) d_M_text_141 (fun v27 => ?_)
      refine zj_jn1 (pcj := 158) (fun u28 => [some (zr g (some this)), none]) (fun u28 => []) (fun u28 => u28) (fun u28 => ?_) (fun j29 hj29 => ?_)
      · refine zj_aload_n d_M_text_158 rfl ?_
        refine zj_iconst 0 d_M_text_159 (by decide) ?_
        refine zj_putI fl_M_161 (fun _ _ _ _ => rfl) ⟨rfl, rfl⟩ d_M_text_160 (fun u30 => ?_)
        refine zj_aload_n d_M_text_163 rfl ?_
        refine zj_getI fl_M_202 (fun _ _ _ _ => rfl) d_M_text_164 (fun v31 => ?_)
        refine zj_if_eq 178 d_M_text_167 rfl (fun _ => ?_) (fun _ => ?_)
        · refine zj_aload_n d_M_text_178 rfl ?_
          refine zj_dup d_M_text_179 (zr_cat _ _) ?_
          refine zj_getI fl_M_103 (fun _ _ _ _ => rfl) d_M_text_180 (fun v32 => ?_)
          refine zj_iconst 1 d_M_text_183 (by decide) ?_
          refine zj_iadd d_M_text_184 ?_
          refine zj_putI fl_M_103 (fun _ _ _ _ => rfl) ⟨rfl, rfl⟩ d_M_text_185 (fun u33 => ?_)
          refine zj_aload_n d_M_text_188 rfl ?_
          refine zj_getI fl_M_103 (fun _ _ _ _ => rfl) d_M_text_189 (fun v34 => ?_)
          refine zj_iconst 1 d_M_text_192 (by decide) ?_
          refine zj_isub d_M_text_193 ?_
          exact zj_iret rfl rfl rfl rfl d_M_text_194
        refine zj_bipush (-100) d_M_text_170 (by decide) ?_
        refine zj_aload_n d_M_text_172 rfl ?_
        refine zj_getI fl_M_206 (fun _ _ _ _ => rfl) d_M_text_173 (fun v35 => ?_)
        refine zj_isub d_M_text_176 ?_
        exact zj_iret rfl rfl rfl rfl d_M_text_177
      refine zj_if_ne 158 d_M_text_144 rfl (fun _ => ?_) (fun _ => ?_)
      · refine zj_cut [some (zr g (some this)), none] ⟨rfl, trivial⟩ ?_
        exact hj29 u11
      refine zj_aload_n d_M_text_147 rfl ?_
      refine zj_getI fl_M_183 (fun _ _ _ _ => rfl) d_M_text_148 (fun v36 => ?_)
      refine zj_if_eq 158 d_M_text_151 rfl (fun _ => ?_) (fun _ => ?_)
      · refine zj_cut [some (zr g (some this)), none] ⟨rfl, trivial⟩ ?_
        exact hj29 u11
      refine zj_aload_n d_M_text_154 rfl ?_
      refine zj_cVU (ci := 9) (T := zT9) (N := 53) [] zm_V_M_wrong ml_M_215 rfl (fun _ _ h => B_M_wrong g (d + 69) h) (Nat.le_refl _) ⟨Nat.zero_le _, Nat.zero_le _⟩ rfl rfl (by decide) d_M_text_155 (fun u38 => ?_)
      refine zj_cut [some (zr g (some this)), none] ⟨rfl, trivial⟩ ?_
      exact hj29 u38
    refine zj_aload_n d_M_text_57 rfl ?_
    refine zj_iload_n d_M_text_58 rfl ?_
    refine zj_cVIp (ci := 9) (T := zT9) (N := 53) [.int x12] zm_V_M_isKey ml_M_241 rfl (fun _ _ h => B_M_isKey g (d + 69) h) (Nat.le_refl _) ⟨Nat.zero_le _, Nat.zero_le _⟩ rfl rfl (by decide) d_M_text_59 (fun v40 => ?_)
    refine zj_if_ne 72 d_M_text_62 rfl (fun _ => ?_) (fun _ => ?_)
    · refine zj_aload_n d_M_text_72 rfl ?_
      refine zj_cVU (ci := 9) (T := zT9) (N := 53) [] zm_V_M_next ml_M_218 rfl (fun _ _ h => B_M_next g (d + 67) h) (Nat.le_refl _) ⟨Nat.zero_le _, Nat.zero_le _⟩ rfl rfl (by decide) d_M_text_73 (fun u43 => ?_)
      refine zj_aload_n d_M_text_76 rfl ?_
      refine zj_getR fl_M_51 (fun _ _ _ _ => rfl) d_M_text_77 (fun v45 => ?_)
      refine zj_iconst 3 d_M_text_80 (by decide) ?_
      refine zj_aload_n d_M_text_81 rfl ?_
      refine zj_getI fl_M_103 (fun _ _ _ _ => rfl) d_M_text_82 (fun v46 => ?_)
      refine zj_imul d_M_text_85 ?_
      refine zj_iload_n d_M_text_86 rfl ?_
      refine zj_iadd d_M_text_87 ?_
      refine zj_aload_n d_M_text_88 rfl ?_
      refine zj_getI fl_M_209 (fun _ _ _ _ => rfl) d_M_text_89 (fun v47 => ?_)
      refine zj_iastore d_M_text_92 (fun u48 => ?_)
      refine zj_aload_n d_M_text_93 rfl ?_
      refine zj_cVU (ci := 9) (T := zT9) (N := 53) [] zm_V_M_either ml_M_235 rfl (fun _ _ h => BG_M_either g (d) h) (Nat.le_refl _) ⟨Nat.zero_le _, Nat.zero_le _⟩ rfl rfl (by decide) d_M_text_94 (fun u50 => ?_)
      refine zj_aload_n d_M_text_97 rfl ?_
      refine zj_getR fl_M_54 (fun _ _ _ _ => rfl) d_M_text_98 (fun v52 => ?_)
      refine zj_iconst 3 d_M_text_101 (by decide) ?_
      refine zj_aload_n d_M_text_102 rfl ?_
      refine zj_getI fl_M_103 (fun _ _ _ _ => rfl) d_M_text_103 (fun v53 => ?_)
      refine zj_imul d_M_text_106 ?_
      refine zj_iload_n d_M_text_107 rfl ?_
      refine zj_iadd d_M_text_108 ?_
      refine zj_aload_n d_M_text_109 rfl ?_
      refine zj_getI fl_M_209 (fun _ _ _ _ => rfl) d_M_text_110 (fun v54 => ?_)
      refine zj_iastore d_M_text_113 (fun u55 => ?_)
      refine zj_aload_n d_M_text_114 rfl ?_
      refine zj_bipush 59 d_M_text_115 (by decide) ?_
      refine zj_cVIp (ci := 9) (T := zT9) (N := 53) [.int 59] zm_V_M_isSign ml_M_225 rfl (fun _ _ h => B_M_isSign g (d + 69) h) (Nat.le_refl _) ⟨Nat.zero_le _, Nat.zero_le _⟩ rfl rfl (by decide) d_M_text_117 (fun v56 => ?_)
      refine zj_if_eq 130 d_M_text_120 rfl (fun _ => ?_) (fun _ => ?_)
      · refine zj_aload_n d_M_text_130 rfl ?_
        refine zj_cVU (ci := 9) (T := zT9) (N := 53) [] zm_V_M_wrong ml_M_215 rfl (fun _ _ h => B_M_wrong g (d + 69) h) (Nat.le_refl _) ⟨Nat.zero_le _, Nat.zero_le _⟩ rfl rfl (by decide) d_M_text_131 (fun u59 => ?_)
        refine zj_iinc (v := (x12 + 1)) [some (zr g (some this)), some (.int (x12 + 1))] d_M_text_134 rfl rfl (by decide) rfl rfl ?_
        refine zj_goto 45 d_M_text_137 rfl ?_
        exact hr10 u59 (x12 + 1)
      refine zj_aload_n d_M_text_123 rfl ?_
      refine zj_cVU (ci := 9) (T := zT9) (N := 53) [] zm_V_M_next ml_M_218 rfl (fun _ _ h => B_M_next g (d + 67) h) (Nat.le_refl _) ⟨Nat.zero_le _, Nat.zero_le _⟩ rfl rfl (by decide) d_M_text_124 (fun u62 => ?_)
      refine zj_goto 134 d_M_text_127 rfl ?_
      refine zj_iinc (v := (x12 + 1)) [some (zr g (some this)), some (.int (x12 + 1))] d_M_text_134 rfl rfl (by decide) rfl rfl ?_
      refine zj_goto 45 d_M_text_137 rfl ?_
      exact hr10 u62 (x12 + 1)
    refine zj_aload_n d_M_text_65 rfl ?_
    refine zj_cVU (ci := 9) (T := zT9) (N := 53) [] zm_V_M_wrong ml_M_215 rfl (fun _ _ h => B_M_wrong g (d + 69) h) (Nat.le_refl _) ⟨Nat.zero_le _, Nat.zero_le _⟩ rfl rfl (by decide) d_M_text_66 (fun u65 => ?_)
    refine zj_goto 140 d_M_text_69 rfl ?_
    refine zj_aload_n d_M_text_140 rfl ?_
    refine zj_getI fl_M_202 (fun _ _ _ _ => rfl) d_M_text_141 (fun v67 => ?_)
    refine zj_jn1 (pcj := 158) (fun u68 => [some (zr g (some this)), none]) (fun u68 => []) (fun u68 => u68) (fun u68 => ?_) (fun j69 hj69 => ?_)
    · refine zj_aload_n d_M_text_158 rfl ?_
      refine zj_iconst 0 d_M_text_159 (by decide) ?_
      refine zj_putI fl_M_161 (fun _ _ _ _ => rfl) ⟨rfl, rfl⟩ d_M_text_160 (fun u70 => ?_)
      refine zj_aload_n d_M_text_163 rfl ?_
      refine zj_getI fl_M_202 (fun _ _ _ _ => rfl) d_M_text_164 (fun v71 => ?_)
      refine zj_if_eq 178 d_M_text_167 rfl (fun _ => ?_) (fun _ => ?_)
      · refine zj_aload_n d_M_text_178 rfl ?_
        refine zj_dup d_M_text_179 (zr_cat _ _) ?_
        refine zj_getI fl_M_103 (fun _ _ _ _ => rfl) d_M_text_180 (fun v72 => ?_)
        refine zj_iconst 1 d_M_text_183 (by decide) ?_
        refine zj_iadd d_M_text_184 ?_
        refine zj_putI fl_M_103 (fun _ _ _ _ => rfl) ⟨rfl, rfl⟩ d_M_text_185 (fun u73 => ?_)
        refine zj_aload_n d_M_text_188 rfl ?_
        refine zj_getI fl_M_103 (fun _ _ _ _ => rfl) d_M_text_189 (fun v74 => ?_)
        refine zj_iconst 1 d_M_text_192 (by decide) ?_
        refine zj_isub d_M_text_193 ?_
        exact zj_iret rfl rfl rfl rfl d_M_text_194
      refine zj_bipush (-100) d_M_text_170 (by decide) ?_
      refine zj_aload_n d_M_text_172 rfl ?_
      refine zj_getI fl_M_206 (fun _ _ _ _ => rfl) d_M_text_173 (fun v75 => ?_)
      refine zj_isub d_M_text_176 ?_
      exact zj_iret rfl rfl rfl rfl d_M_text_177
    refine zj_if_ne 158 d_M_text_144 rfl (fun _ => ?_) (fun _ => ?_)
    · refine zj_cut [some (zr g (some this)), none] ⟨rfl, trivial⟩ ?_
      exact hj69 u65
    refine zj_aload_n d_M_text_147 rfl ?_
    refine zj_getI fl_M_183 (fun _ _ _ _ => rfl) d_M_text_148 (fun v76 => ?_)
    refine zj_if_eq 158 d_M_text_151 rfl (fun _ => ?_) (fun _ => ?_)
    · refine zj_cut [some (zr g (some this)), none] ⟨rfl, trivial⟩ ?_
      exact hj69 u65
    refine zj_aload_n d_M_text_154 rfl ?_
    refine zj_cVU (ci := 9) (T := zT9) (N := 53) [] zm_V_M_wrong ml_M_215 rfl (fun _ _ h => B_M_wrong g (d + 69) h) (Nat.le_refl _) ⟨Nat.zero_le _, Nat.zero_le _⟩ rfl rfl (by decide) d_M_text_155 (fun u78 => ?_)
    refine zj_cut [some (zr g (some this)), none] ⟨rfl, trivial⟩ ?_
    exact hj69 u78
  refine zj_bipush (-4) d_M_text_9 (by decide) ?_
  exact zj_iret rfl rfl rfl rfl d_M_text_11
def F_Reader_read (u0 : zS) (this : Nat) (a1 : Option Nat) : Option (Int32 × zS) := (zpR u0 5 (some this) 2 a1).bind fun u1 => (zgR u1 5 (some this) 2).bind fun v2 => (zob u1 7 v2).bind fun q5 => (F_Text_clear u1 q5 ).bind fun u4 => (zpI u4 5 (some this) 3 0).bind fun u6 => (zpI u6 5 (some this) 7 (-1)).bind fun u7 => (zob u7 5 (some this)).bind fun q10 => (F_Reader_advance u7 q10 ).bind fun u9 => zfix2 (fun (r11 : zS → Int32 → Option (Int32 × zS)) (u12 : zS) (x13 : Int32) => if 3 ≤ x13 then ((zgI u12 5 (some this) 4).bind fun v14 => if v14 = 13 then ((zpI u12 5 (some this) 0 0).bind fun u15 => (zgI u15 5 (some this) 7).bind fun v16 => some (v16, u15)) else ((zob u12 5 (some this)).bind fun q19 => (F_Reader_refuse u12 q19 ).bind fun u18 => (zpI u18 5 (some this) 0 0).bind fun u20 => (zgI u20 5 (some this) 7).bind fun v21 => some (v21, u20))) else ((zob u12 5 (some this)).bind fun q24 => (F_Reader_expect u12 q24 ((6 : Int32) + x13)).bind fun u23 => (zob u23 5 (some this)).bind fun q27 => (GR 60 5 u23 q27 0).bind fun u26 => (zgR u26 5 (some this) 2).bind fun v28 => (zob u26 7 v28).bind fun q31 => (F_Text_endPart u26 q31 x13).bind fun u30 => (zob u30 5 (some this)).bind fun q34 => (F_Reader_expect u30 q34 59).bind fun u33 => r11 u33 (x13 + 1))) zFU u9 0
set_option maxHeartbeats 4000000 in
set_option maxRecDepth 100000 in
theorem B_Reader_read (g : zG) (d : Nat) {u0 : zS} {this : Nat} {a1 : Option Nat} {o : Int32 × zS} (h : F_Reader_read u0 this a1 = some o) : zMt g zy_Reader_read (d + 76) 0 0 [zr g (some this), zr g a1] u0 (some (.int o.1)) o.2 := by
  refine zMt_of2 (ls := [some (zr g (some this)), some (zr g a1), none]) 1 (by decide +kernel) (by simp [lg_sl, zr_cat, zcI, zcJ]) (by simp [zal, zr_cat, zcI, zcJ, List.replicate]) ?_
  revert h
  show zJ g zy_Reader_read (d + 76) 0 0 zwI o 0 0 0 [some (zr g (some this)), some (zr g a1), none] [] u0 (F_Reader_read u0 this a1)
  unfold F_Reader_read
  refine zj_aload_n d_Reader_read_0 rfl ?_
  refine zj_aload_n d_Reader_read_1 rfl ?_
  refine zj_putR fl_Reader_34 (fun _ _ _ _ => rfl) (znfO _) d_Reader_read_2 (fun u1 => ?_)
  refine zj_aload_n d_Reader_read_5 rfl ?_
  refine zj_getR fl_Reader_34 (fun _ _ _ _ => rfl) d_Reader_read_6 (fun v2 => ?_)
  refine zj_cVU (ci := 7) (T := zT7) (N := 4) [] zm_V_Text_clear ml_Reader_38 rfl (fun _ _ h => B_Text_clear g (d + 74) h) (Nat.le_refl _) ⟨Nat.zero_le _, Nat.zero_le _⟩ rfl rfl (by decide) d_Reader_read_9 (fun u4 => ?_)
  refine zj_aload_n d_Reader_read_12 rfl ?_
  refine zj_iconst 0 d_Reader_read_13 (by decide) ?_
  refine zj_putI fl_Reader_19 (fun _ _ _ _ => rfl) ⟨rfl, rfl⟩ d_Reader_read_14 (fun u6 => ?_)
  refine zj_aload_n d_Reader_read_17 rfl ?_
  refine zj_iconst (-1) d_Reader_read_18 (by decide) ?_
  refine zj_putI fl_Reader_31 (fun _ _ _ _ => rfl) ⟨rfl, rfl⟩ d_Reader_read_19 (fun u7 => ?_)
  refine zj_aload_n d_Reader_read_22 rfl ?_
  refine zj_cVU (ci := 5) (T := zT5) (N := 8) [] zm_V_Reader_advance ml_Reader_43 rfl (fun _ _ h => B_Reader_advance g (d + 66) h) (Nat.le_refl _) ⟨Nat.zero_le _, Nat.zero_le _⟩ rfl rfl (by decide) d_Reader_read_23 (fun u9 => ?_)
  refine zj_iconst 0 d_Reader_read_26 (by decide) ?_
  refine zj_istore_n [some (zr g (some this)), some (zr g a1), some (.int 0)] d_Reader_read_27 (by decide) (by simp [zNL, zr_cat]) rfl ?_
  refine zj_cut [some (zr g (some this)), none, some (.int 0)] ⟨rfl, ⟨rfl, trivial⟩⟩ ?_
  refine zj_fix2 (fun u12 x13 => [some (zr g (some this)), none, some (.int x13)]) (fun u12 x13 => u12) (fun r11 hr11 u12 x13 => ?_) u9 0
  refine zj_iload_n d_Reader_read_28 rfl ?_
  refine zj_iconst 3 d_Reader_read_29 (by decide) ?_
  refine zj_icmp_ge 66 d_Reader_read_30 rfl (fun _ => ?_) (fun _ => ?_)
  · refine zj_aload_n d_Reader_read_66 rfl ?_
    refine zj_getI fl_Reader_22 (fun _ _ _ _ => rfl) d_Reader_read_67 (fun v14 => ?_)
    refine zj_bipush 13 d_Reader_read_70 (by decide) ?_
    refine zj_icmp_eq 79 d_Reader_read_72 rfl (fun _ => ?_) (fun _ => ?_)
    · refine zj_aload_n d_Reader_read_79 rfl ?_
      refine zj_iconst 0 d_Reader_read_80 (by decide) ?_
      refine zj_putI fl_Reader_9 (fun _ _ _ _ => rfl) ⟨rfl, rfl⟩ d_Reader_read_81 (fun u15 => ?_)
      refine zj_aload_n d_Reader_read_84 rfl ?_
      refine zj_getI fl_Reader_31 (fun _ _ _ _ => rfl) d_Reader_read_85 (fun v16 => ?_)
      exact zj_iret rfl rfl rfl rfl d_Reader_read_88
    refine zj_aload_n d_Reader_read_75 rfl ?_
    refine zj_cVU (ci := 5) (T := zT5) (N := 8) [] zm_V_Reader_refuse ml_Reader_56 rfl (fun _ _ h => B_Reader_refuse g (d + 74) h) (Nat.le_refl _) ⟨Nat.zero_le _, Nat.zero_le _⟩ rfl rfl (by decide) d_Reader_read_76 (fun u18 => ?_)
    refine zj_aload_n d_Reader_read_79 rfl ?_
    refine zj_iconst 0 d_Reader_read_80 (by decide) ?_
    refine zj_putI fl_Reader_9 (fun _ _ _ _ => rfl) ⟨rfl, rfl⟩ d_Reader_read_81 (fun u20 => ?_)
    refine zj_aload_n d_Reader_read_84 rfl ?_
    refine zj_getI fl_Reader_31 (fun _ _ _ _ => rfl) d_Reader_read_85 (fun v21 => ?_)
    exact zj_iret rfl rfl rfl rfl d_Reader_read_88
  refine zj_aload_n d_Reader_read_33 rfl ?_
  refine zj_bipush 6 d_Reader_read_34 (by decide) ?_
  refine zj_iload_n d_Reader_read_36 rfl ?_
  refine zj_iadd d_Reader_read_37 ?_
  refine zj_cVU (ci := 5) (T := zT5) (N := 8) [.int ((6 : Int32) + x13)] zm_V_Reader_expect ml_Reader_46 rfl (fun _ _ h => B_Reader_expect g (d + 65) h) (Nat.le_refl _) ⟨Nat.zero_le _, Nat.zero_le _⟩ rfl rfl (by decide) d_Reader_read_38 (fun u23 => ?_)
  refine zj_aload_n d_Reader_read_41 rfl ?_
  refine zj_iconst 0 d_Reader_read_42 (by decide) ?_
  refine zj_cVU (ci := 5) (T := zT5) (N := 8) [.int 0] zm_V_Reader_readOr ml_Reader_50 rfl (fun _ _ h => BG_Reader_readOr g (d) h) (Nat.le_refl _) ⟨Nat.zero_le _, Nat.zero_le _⟩ rfl rfl (by decide) d_Reader_read_43 (fun u26 => ?_)
  refine zj_aload_n d_Reader_read_46 rfl ?_
  refine zj_getR fl_Reader_34 (fun _ _ _ _ => rfl) d_Reader_read_47 (fun v28 => ?_)
  refine zj_iload_n d_Reader_read_50 rfl ?_
  refine zj_cVU (ci := 7) (T := zT7) (N := 4) [.int x13] zm_V_Text_endPart ml_Reader_53 rfl (fun _ _ h => B_Text_endPart g (d + 74) h) (Nat.le_refl _) ⟨Nat.zero_le _, Nat.zero_le _⟩ rfl rfl (by decide) d_Reader_read_51 (fun u30 => ?_)
  refine zj_aload_n d_Reader_read_54 rfl ?_
  refine zj_bipush 59 d_Reader_read_55 (by decide) ?_
  refine zj_cVU (ci := 5) (T := zT5) (N := 8) [.int 59] zm_V_Reader_expect ml_Reader_46 rfl (fun _ _ h => B_Reader_expect g (d + 65) h) (Nat.le_refl _) ⟨Nat.zero_le _, Nat.zero_le _⟩ rfl rfl (by decide) d_Reader_read_57 (fun u33 => ?_)
  refine zj_iinc (v := (x13 + 1)) [some (zr g (some this)), none, some (.int (x13 + 1))] d_Reader_read_60 rfl rfl (by decide) rfl rfl ?_
  refine zj_goto 28 d_Reader_read_63 rfl ?_
  exact hr11 u33 (x13 + 1)
def F_X_init (u0 : zS) (this : Nat) : Option (zS) := (znw u0 (.inr 2)).bind <| zk fun a1 u2 => (F_Office_init u2 a1 ).bind fun u3 => (zpR u3 8 (some this) 0 (some a1)).bind fun u4 => (znw u4 (.inl (.object "PostsFilled$Person", 7))).bind <| zk fun a5 u6 => (zpR u6 8 (some this) 1 (some a5)).bind fun u7 => (zpI u7 8 (some this) 2 0).bind fun u8 => (znw u8 (.inl (.object "PostsFilled$Text", 6))).bind <| zk fun a9 u10 => (zpR u10 8 (some this) 4 (some a9)).bind fun u11 => (zpI u11 8 (some this) 5 0).bind fun u12 => (zpI u12 8 (some this) 6 0).bind fun u13 => (znw u13 (.inl (.int, 6))).bind <| zk fun a14 u15 => (zpR u15 8 (some this) 7 (some a14)).bind fun u16 => (znw u16 (.inr 1)).bind <| zk fun a17 u18 => (F_Cover_init u18 a17 ).bind fun u19 => (zpR u19 8 (some this) 8 (some a17)).bind fun u20 => (znw u20 (.inr 4)).bind <| zk fun a21 u22 => (F_Plan_init u22 a21 ).bind fun u23 => (zpR u23 8 (some this) 9 (some a21)).bind fun u24 => (znw u24 (.inr 0)).bind <| zk fun a25 u26 => (F_Course_init u26 a25 ).bind fun u27 => (zpR u27 8 (some this) 10 (some a25)).bind fun u28 => (znw u28 (.inl (.object "PostsFilled$Sheet", 4))).bind <| zk fun a29 u30 => (zpR u30 8 (some this) 11 (some a29)).bind fun u31 => (zpZ u31 8 (some this) 12 0).bind fun u32 => (zpI u32 8 (some this) 13 0).bind fun u33 => (zpI u33 8 (some this) 14 0).bind fun u34 => (zpI u34 8 (some this) 15 0).bind fun u35 => (zgR u35 8 (some this) 1).bind fun v36 => (znw u35 (.inr 3)).bind <| zk fun a37 u38 => (F_Person_init u38 a37 ).bind fun u39 => (zsR u39 "PostsFilled$Person" 3 v36 0 (some a37)).bind fun u40 => (zgR u40 8 (some this) 1).bind fun v41 => (znw u40 (.inr 3)).bind <| zk fun a42 u43 => (F_Person_init u43 a42 ).bind fun u44 => (zsR u44 "PostsFilled$Person" 3 v41 1 (some a42)).bind fun u45 => (zgR u45 8 (some this) 1).bind fun v46 => (znw u45 (.inr 3)).bind <| zk fun a47 u48 => (F_Person_init u48 a47 ).bind fun u49 => (zsR u49 "PostsFilled$Person" 3 v46 2 (some a47)).bind fun u50 => (zgR u50 8 (some this) 1).bind fun v51 => (znw u50 (.inr 3)).bind <| zk fun a52 u53 => (F_Person_init u53 a52 ).bind fun u54 => (zsR u54 "PostsFilled$Person" 3 v51 3 (some a52)).bind fun u55 => (zgR u55 8 (some this) 1).bind fun v56 => (znw u55 (.inr 3)).bind <| zk fun a57 u58 => (F_Person_init u58 a57 ).bind fun u59 => (zsR u59 "PostsFilled$Person" 3 v56 4 (some a57)).bind fun u60 => (zgR u60 8 (some this) 1).bind fun v61 => (znw u60 (.inr 3)).bind <| zk fun a62 u63 => (F_Person_init u63 a62 ).bind fun u64 => (zsR u64 "PostsFilled$Person" 3 v61 5 (some a62)).bind fun u65 => (zgR u65 8 (some this) 1).bind fun v66 => (znw u65 (.inr 3)).bind <| zk fun a67 u68 => (F_Person_init u68 a67 ).bind fun u69 => (zsR u69 "PostsFilled$Person" 3 v66 6 (some a67)).bind fun u70 => (zgR u70 8 (some this) 4).bind fun v71 => (znw u70 (.inr 7)).bind <| zk fun a72 u73 => (F_Text_init u73 a72 ).bind fun u74 => (zsR u74 "PostsFilled$Text" 7 v71 0 (some a72)).bind fun u75 => (zgR u75 8 (some this) 4).bind fun v76 => (znw u75 (.inr 7)).bind <| zk fun a77 u78 => (F_Text_init u78 a77 ).bind fun u79 => (zsR u79 "PostsFilled$Text" 7 v76 1 (some a77)).bind fun u80 => (zgR u80 8 (some this) 4).bind fun v81 => (znw u80 (.inr 7)).bind <| zk fun a82 u83 => (F_Text_init u83 a82 ).bind fun u84 => (zsR u84 "PostsFilled$Text" 7 v81 2 (some a82)).bind fun u85 => (zgR u85 8 (some this) 4).bind fun v86 => (znw u85 (.inr 7)).bind <| zk fun a87 u88 => (F_Text_init u88 a87 ).bind fun u89 => (zsR u89 "PostsFilled$Text" 7 v86 3 (some a87)).bind fun u90 => (zgR u90 8 (some this) 4).bind fun v91 => (znw u90 (.inr 7)).bind <| zk fun a92 u93 => (F_Text_init u93 a92 ).bind fun u94 => (zsR u94 "PostsFilled$Text" 7 v91 4 (some a92)).bind fun u95 => (zgR u95 8 (some this) 4).bind fun v96 => (znw u95 (.inr 7)).bind <| zk fun a97 u98 => (F_Text_init u98 a97 ).bind fun u99 => (zsR u99 "PostsFilled$Text" 7 v96 5 (some a97)).bind fun u100 => (zgR u100 8 (some this) 11).bind fun v101 => (znw u100 (.inr 6)).bind <| zk fun a102 u103 => (F_Sheet_init u103 a102 ).bind fun u104 => (zsR u104 "PostsFilled$Sheet" 6 v101 0 (some a102)).bind fun u105 => (zgR u105 8 (some this) 11).bind fun v106 => (znw u105 (.inr 6)).bind <| zk fun a107 u108 => (F_Sheet_init u108 a107 ).bind fun u109 => (zsR u109 "PostsFilled$Sheet" 6 v106 1 (some a107)).bind fun u110 => (zgR u110 8 (some this) 11).bind fun v111 => (znw u110 (.inr 6)).bind <| zk fun a112 u113 => (F_Sheet_init u113 a112 ).bind fun u114 => (zsR u114 "PostsFilled$Sheet" 6 v111 2 (some a112)).bind fun u115 => (zgR u115 8 (some this) 11).bind fun v116 => (znw u115 (.inr 6)).bind <| zk fun a117 u118 => (F_Sheet_init u118 a117 ).bind fun u119 => (zsR u119 "PostsFilled$Sheet" 6 v116 3 (some a117)).bind fun u120 => (znw u120 (.inr 5)).bind <| zk fun a121 u122 => (zgR u122 8 (some this) 4).bind fun v123 => (zaR u122 "PostsFilled$Text" v123 0).bind fun v124 => (F_Reader_init u122 a121 v124).bind fun u125 => (zpR u125 8 (some this) 3 (some a121)).bind fun u126 => zfix2 (fun (r127 : zS → Int32 → Option (zS)) (u128 : zS) (x129 : Int32) => if 75 ≤ x129 then ((zgR u128 8 (some this) 3).bind fun v130 => (zgR u128 8 (some this) 4).bind fun v131 => (zaR u128 "PostsFilled$Text" v131 0).bind fun v132 => (zob u128 5 v130).bind fun q135 => (F_Reader_read u128 q135 v132).bind <| zk fun v133 u134 => (zpI u134 8 (some this) 5 1).bind fun u136 => some u136) else ((zgR u128 8 (some this) 3).bind fun v137 => (zch 0 x129).bind fun v138 => (zob u128 5 v137).bind fun q141 => (F_Reader_take u128 q141 v138).bind fun u140 => r127 u140 (x129 + 1))) zFU u126 0
set_option maxHeartbeats 4000000 in
set_option maxRecDepth 100000 in
theorem B_X_init (g : zG) (d : Nat) {u0 : zS} {this : Nat} {o : zS} (h : F_X_init u0 this = some o) : zMt g zy_X_init (d + 77) 72 2924 [zr g (some this)] u0 none o := by
  refine zMt_of2 (ls := [some (zr g (some this)), none]) 1 (by decide +kernel) (by simp [lg_sl, zr_cat, zcI, zcJ]) (by simp [zal, zr_cat, zcI, zcJ, List.replicate]) ?_
  revert h
  show zJ g zy_X_init (d + 77) 72 2924 zwV o 0 0 0 [some (zr g (some this)), none] [] u0 (F_X_init u0 this)
  unfold F_X_init
  refine zj_aload_n d_X_init_0 rfl ?_
  refine zj_objInit ⟨_, rfl⟩ oi_X_1 oi_i oi_c (by omega) (by decide) d_X_init_1 ?_
  refine zj_aload_n d_X_init_4 rfl ?_
  refine zj_new zcls2 (by decide) cn_X_7 in_2 ii_2 (by decide) d_X_init_5 (fun a1 u2 => ?_)
  refine zj_dup d_X_init_8 (zr_cat _ _) ?_
  refine zj_callIN (mc2 := 1) (ms2 := 6) [] zm_I_Office_init rfl mn_X_9 (fun _ h => B_Office_init g (d + 75) h) (Nat.le_refl _) (by decide) rfl rfl (by simp [zr_cat, zcI, zcJ]) d_X_init_9 (fun u3 => ?_)
  refine zj_putFR fl_X_10 ⟨rfl, rfl⟩ (fun _ _ _ _ => rfl) (znfO _) d_X_init_12 (fun u4 => ?_)
  refine zj_aload_n d_X_init_15 rfl ?_
  refine zj_bipush 7 d_X_init_16 (by decide) ?_
  refine zj_anew (N := 7) 4 rfl (fun _ h => h.2.2.2.2.2.2.2.1) cn_X_16 (by decide) (by decide) (by decide) (by decide) d_X_init_18 (fun a5 u6 => ?_)
  refine zj_putFR fl_X_18 ⟨rfl, rfl⟩ (fun _ _ _ _ => rfl) (znfA _) d_X_init_21 (fun u7 => ?_)
  refine zj_aload_n d_X_init_24 rfl ?_
  refine zj_iconst 0 d_X_init_25 (by decide) ?_
  refine zj_putI fl_X_22 (fun _ _ _ _ => rfl) ⟨rfl, rfl⟩ d_X_init_26 (fun u8 => ?_)
  refine zj_aload_n d_X_init_29 rfl ?_
  refine zj_bipush 6 d_X_init_30 (by decide) ?_
  refine zj_anew (N := 6) 5 rfl (fun _ h => h.2.2.2.2.2.2.2.2.1) cn_X_26 (by decide) (by decide) (by decide) (by decide) d_X_init_32 (fun a9 u10 => ?_)
  refine zj_putFR fl_X_28 ⟨rfl, rfl⟩ (fun _ _ _ _ => rfl) (znfA _) d_X_init_35 (fun u11 => ?_)
  refine zj_aload_n d_X_init_38 rfl ?_
  refine zj_iconst 0 d_X_init_39 (by decide) ?_
  refine zj_putI fl_X_32 (fun _ _ _ _ => rfl) ⟨rfl, rfl⟩ d_X_init_40 (fun u12 => ?_)
  refine zj_aload_n d_X_init_43 rfl ?_
  refine zj_iconst 0 d_X_init_44 (by decide) ?_
  refine zj_putI fl_X_35 (fun _ _ _ _ => rfl) ⟨rfl, rfl⟩ d_X_init_45 (fun u13 => ?_)
  refine zj_aload_n d_X_init_48 rfl ?_
  refine zj_bipush 6 d_X_init_49 (by decide) ?_
  refine zj_newa (N := 6) 0 rfl rfl (by simp) ac_I (by decide) (by decide) (by decide) (by decide) d_X_init_51 (fun a14 u15 => ?_)
  refine zj_putFR fl_X_38 ⟨rfl, rfl⟩ (fun _ _ _ _ => rfl) (znfA _) d_X_init_53 (fun u16 => ?_)
  refine zj_aload_n d_X_init_56 rfl ?_
  refine zj_new zcls1 (by decide) cn_X_42 in_1 ii_1 (by decide) d_X_init_57 (fun a17 u18 => ?_)
  refine zj_dup d_X_init_60 (zr_cat _ _) ?_
  refine zj_callIN (mc2 := 2) (ms2 := 70) [] zm_I_Cover_init rfl mn_X_44 (fun _ h => B_Cover_init g (d + 75) h) (Nat.le_refl _) (by decide) rfl rfl (by simp [zr_cat, zcI, zcJ]) d_X_init_61 (fun u19 => ?_)
  refine zj_putFR fl_X_45 ⟨rfl, rfl⟩ (fun _ _ _ _ => rfl) (znfO _) d_X_init_64 (fun u20 => ?_)
  refine zj_aload_n d_X_init_67 rfl ?_
  refine zj_new zcls4 (by decide) cn_X_49 in_4 ii_4 (by decide) d_X_init_68 (fun a21 u22 => ?_)
  refine zj_dup d_X_init_71 (zr_cat _ _) ?_
  refine zj_callIN (mc2 := 3) (ms2 := 944) [] zm_I_Plan_init rfl mn_X_51 (fun _ h => B_Plan_init g (d + 75) h) (Nat.le_refl _) (by decide) rfl rfl (by simp [zr_cat, zcI, zcJ]) d_X_init_72 (fun u23 => ?_)
  refine zj_putFR fl_X_52 ⟨rfl, rfl⟩ (fun _ _ _ _ => rfl) (znfO _) d_X_init_75 (fun u24 => ?_)
  refine zj_aload_n d_X_init_78 rfl ?_
  refine zj_new zcls0 (by decide) cn_X_56 in_0 ii_0 (by decide) d_X_init_79 (fun a25 u26 => ?_)
  refine zj_dup d_X_init_82 (zr_cat _ _) ?_
  refine zj_callIN (mc2 := 3) (ms2 := 126) [] zm_I_Course_init rfl mn_X_58 (fun _ h => B_Course_init g (d + 75) h) (Nat.le_refl _) (by decide) rfl rfl (by simp [zr_cat, zcI, zcJ]) d_X_init_83 (fun u27 => ?_)
  refine zj_putFR fl_X_59 ⟨rfl, rfl⟩ (fun _ _ _ _ => rfl) (znfO _) d_X_init_86 (fun u28 => ?_)
  refine zj_aload_n d_X_init_89 rfl ?_
  refine zj_iconst 4 d_X_init_90 (by decide) ?_
  refine zj_anew (N := 4) 6 rfl (fun _ h => h.2.2.2.2.2.2.2.2.2.1) cn_X_63 (by decide) (by decide) (by decide) (by decide) d_X_init_91 (fun a29 u30 => ?_)
  refine zj_putFR fl_X_65 ⟨rfl, rfl⟩ (fun _ _ _ _ => rfl) (znfA _) d_X_init_94 (fun u31 => ?_)
  refine zj_aload_n d_X_init_97 rfl ?_
  refine zj_iconst 0 d_X_init_98 (by decide) ?_
  refine zj_putZ fl_X_69 d_X_init_99 (fun u32 => ?_)
  refine zj_aload_n d_X_init_102 rfl ?_
  refine zj_iconst 0 d_X_init_103 (by decide) ?_
  refine zj_putI fl_X_73 (fun _ _ _ _ => rfl) ⟨rfl, rfl⟩ d_X_init_104 (fun u33 => ?_)
  refine zj_aload_n d_X_init_107 rfl ?_
  refine zj_iconst 0 d_X_init_108 (by decide) ?_
  refine zj_putI fl_X_76 (fun _ _ _ _ => rfl) ⟨rfl, rfl⟩ d_X_init_109 (fun u34 => ?_)
  refine zj_aload_n d_X_init_112 rfl ?_
  refine zj_iconst 0 d_X_init_113 (by decide) ?_
  refine zj_putI fl_X_79 (fun _ _ _ _ => rfl) ⟨rfl, rfl⟩ d_X_init_114 (fun u35 => ?_)
  refine zj_iconst 0 d_X_init_117 (by decide) ?_
  refine zj_istore_n [some (zr g (some this)), some (.int 0)] d_X_init_118 (by decide) rfl rfl ?_
  refine zj_iload_n d_X_init_119 rfl ?_
  refine zj_bipush 7 d_X_init_120 (by decide) ?_
  refine zj_icmp_ge_f 144 d_X_init_122 rfl (by decide) ?_
  refine zj_aload_n d_X_init_125 rfl ?_
  refine zj_getR fl_X_18 (fun _ _ _ _ => rfl) d_X_init_126 (fun v36 => ?_)
  refine zj_iload_n d_X_init_129 rfl ?_
  refine zj_new zcls3 (by decide) cn_X_16 in_3 ii_3 (by decide) d_X_init_130 (fun a37 u38 => ?_)
  refine zj_dup d_X_init_133 (zr_cat _ _) ?_
  refine zj_callI (mc2 := 2) (ms2 := 12) [] zm_I_Person_init rfl ml_X_82 (fun _ h => B_Person_init g (d + 74) h) (Nat.le_refl _) (by decide) rfl rfl (by simp [zr_cat, zcI, zcJ]) d_X_init_134 (fun u39 => ?_)
  refine zj_aastore (T := zT3) (N0 := 10) 4 rfl rfl d_X_init_137 (fun u40 => ?_)
  refine zj_iinc (v := 1) [some (zr g (some this)), some (.int 1)] d_X_init_138 rfl (by decide) (by decide) rfl rfl ?_
  refine zj_goto 119 d_X_init_141 rfl ?_
  refine zj_iload_n d_X_init_119 rfl ?_
  refine zj_bipush 7 d_X_init_120 (by decide) ?_
  refine zj_icmp_ge_f 144 d_X_init_122 rfl (by decide) ?_
  refine zj_aload_n d_X_init_125 rfl ?_
  refine zj_getR fl_X_18 (fun _ _ _ _ => rfl) d_X_init_126 (fun v41 => ?_)
  refine zj_iload_n d_X_init_129 rfl ?_
  refine zj_new zcls3 (by decide) cn_X_16 in_3 ii_3 (by decide) d_X_init_130 (fun a42 u43 => ?_)
  refine zj_dup d_X_init_133 (zr_cat _ _) ?_
  refine zj_callI (mc2 := 2) (ms2 := 12) [] zm_I_Person_init rfl ml_X_82 (fun _ h => B_Person_init g (d + 74) h) (Nat.le_refl _) (by decide) rfl rfl (by simp [zr_cat, zcI, zcJ]) d_X_init_134 (fun u44 => ?_)
  refine zj_aastore (T := zT3) (N0 := 10) 4 rfl rfl d_X_init_137 (fun u45 => ?_)
  refine zj_iinc (v := 2) [some (zr g (some this)), some (.int 2)] d_X_init_138 rfl (by decide) (by decide) rfl rfl ?_
  refine zj_goto 119 d_X_init_141 rfl ?_
  refine zj_iload_n d_X_init_119 rfl ?_
  refine zj_bipush 7 d_X_init_120 (by decide) ?_
  refine zj_icmp_ge_f 144 d_X_init_122 rfl (by decide) ?_
  refine zj_aload_n d_X_init_125 rfl ?_
  refine zj_getR fl_X_18 (fun _ _ _ _ => rfl) d_X_init_126 (fun v46 => ?_)
  refine zj_iload_n d_X_init_129 rfl ?_
  refine zj_new zcls3 (by decide) cn_X_16 in_3 ii_3 (by decide) d_X_init_130 (fun a47 u48 => ?_)
  refine zj_dup d_X_init_133 (zr_cat _ _) ?_
  refine zj_callI (mc2 := 2) (ms2 := 12) [] zm_I_Person_init rfl ml_X_82 (fun _ h => B_Person_init g (d + 74) h) (Nat.le_refl _) (by decide) rfl rfl (by simp [zr_cat, zcI, zcJ]) d_X_init_134 (fun u49 => ?_)
  refine zj_aastore (T := zT3) (N0 := 10) 4 rfl rfl d_X_init_137 (fun u50 => ?_)
  refine zj_iinc (v := 3) [some (zr g (some this)), some (.int 3)] d_X_init_138 rfl (by decide) (by decide) rfl rfl ?_
  refine zj_goto 119 d_X_init_141 rfl ?_
  refine zj_iload_n d_X_init_119 rfl ?_
  refine zj_bipush 7 d_X_init_120 (by decide) ?_
  refine zj_icmp_ge_f 144 d_X_init_122 rfl (by decide) ?_
  refine zj_aload_n d_X_init_125 rfl ?_
  refine zj_getR fl_X_18 (fun _ _ _ _ => rfl) d_X_init_126 (fun v51 => ?_)
  refine zj_iload_n d_X_init_129 rfl ?_
  refine zj_new zcls3 (by decide) cn_X_16 in_3 ii_3 (by decide) d_X_init_130 (fun a52 u53 => ?_)
  refine zj_dup d_X_init_133 (zr_cat _ _) ?_
  refine zj_callI (mc2 := 2) (ms2 := 12) [] zm_I_Person_init rfl ml_X_82 (fun _ h => B_Person_init g (d + 74) h) (Nat.le_refl _) (by decide) rfl rfl (by simp [zr_cat, zcI, zcJ]) d_X_init_134 (fun u54 => ?_)
  refine zj_aastore (T := zT3) (N0 := 10) 4 rfl rfl d_X_init_137 (fun u55 => ?_)
  refine zj_iinc (v := 4) [some (zr g (some this)), some (.int 4)] d_X_init_138 rfl (by decide) (by decide) rfl rfl ?_
  refine zj_goto 119 d_X_init_141 rfl ?_
  refine zj_iload_n d_X_init_119 rfl ?_
  refine zj_bipush 7 d_X_init_120 (by decide) ?_
  refine zj_icmp_ge_f 144 d_X_init_122 rfl (by decide) ?_
  refine zj_aload_n d_X_init_125 rfl ?_
  refine zj_getR fl_X_18 (fun _ _ _ _ => rfl) d_X_init_126 (fun v56 => ?_)
  refine zj_iload_n d_X_init_129 rfl ?_
  refine zj_new zcls3 (by decide) cn_X_16 in_3 ii_3 (by decide) d_X_init_130 (fun a57 u58 => ?_)
  refine zj_dup d_X_init_133 (zr_cat _ _) ?_
  refine zj_callI (mc2 := 2) (ms2 := 12) [] zm_I_Person_init rfl ml_X_82 (fun _ h => B_Person_init g (d + 74) h) (Nat.le_refl _) (by decide) rfl rfl (by simp [zr_cat, zcI, zcJ]) d_X_init_134 (fun u59 => ?_)
  refine zj_aastore (T := zT3) (N0 := 10) 4 rfl rfl d_X_init_137 (fun u60 => ?_)
  refine zj_iinc (v := 5) [some (zr g (some this)), some (.int 5)] d_X_init_138 rfl (by decide) (by decide) rfl rfl ?_
  refine zj_goto 119 d_X_init_141 rfl ?_
  refine zj_iload_n d_X_init_119 rfl ?_
  refine zj_bipush 7 d_X_init_120 (by decide) ?_
  refine zj_icmp_ge_f 144 d_X_init_122 rfl (by decide) ?_
  refine zj_aload_n d_X_init_125 rfl ?_
  refine zj_getR fl_X_18 (fun _ _ _ _ => rfl) d_X_init_126 (fun v61 => ?_)
  refine zj_iload_n d_X_init_129 rfl ?_
  refine zj_new zcls3 (by decide) cn_X_16 in_3 ii_3 (by decide) d_X_init_130 (fun a62 u63 => ?_)
  refine zj_dup d_X_init_133 (zr_cat _ _) ?_
  refine zj_callI (mc2 := 2) (ms2 := 12) [] zm_I_Person_init rfl ml_X_82 (fun _ h => B_Person_init g (d + 74) h) (Nat.le_refl _) (by decide) rfl rfl (by simp [zr_cat, zcI, zcJ]) d_X_init_134 (fun u64 => ?_)
  refine zj_aastore (T := zT3) (N0 := 10) 4 rfl rfl d_X_init_137 (fun u65 => ?_)
  refine zj_iinc (v := 6) [some (zr g (some this)), some (.int 6)] d_X_init_138 rfl (by decide) (by decide) rfl rfl ?_
  refine zj_goto 119 d_X_init_141 rfl ?_
  refine zj_iload_n d_X_init_119 rfl ?_
  refine zj_bipush 7 d_X_init_120 (by decide) ?_
  refine zj_icmp_ge_f 144 d_X_init_122 rfl (by decide) ?_
  refine zj_aload_n d_X_init_125 rfl ?_
  refine zj_getR fl_X_18 (fun _ _ _ _ => rfl) d_X_init_126 (fun v66 => ?_)
  refine zj_iload_n d_X_init_129 rfl ?_
  refine zj_new zcls3 (by decide) cn_X_16 in_3 ii_3 (by decide) d_X_init_130 (fun a67 u68 => ?_)
  refine zj_dup d_X_init_133 (zr_cat _ _) ?_
  refine zj_callI (mc2 := 2) (ms2 := 12) [] zm_I_Person_init rfl ml_X_82 (fun _ h => B_Person_init g (d + 74) h) (Nat.le_refl _) (by decide) rfl rfl (by simp [zr_cat, zcI, zcJ]) d_X_init_134 (fun u69 => ?_)
  refine zj_aastore (T := zT3) (N0 := 10) 4 rfl rfl d_X_init_137 (fun u70 => ?_)
  refine zj_iinc (v := 7) [some (zr g (some this)), some (.int 7)] d_X_init_138 rfl (by decide) (by decide) rfl rfl ?_
  refine zj_goto 119 d_X_init_141 rfl ?_
  refine zj_iload_n d_X_init_119 rfl ?_
  refine zj_bipush 7 d_X_init_120 (by decide) ?_
  refine zj_icmp_ge_t 144 d_X_init_122 rfl (by decide) ?_
  refine zj_iconst 0 d_X_init_144 (by decide) ?_
  refine zj_istore_n [some (zr g (some this)), some (.int 0)] d_X_init_145 (by decide) rfl rfl ?_
  refine zj_iload_n d_X_init_146 rfl ?_
  refine zj_bipush 6 d_X_init_147 (by decide) ?_
  refine zj_icmp_ge_f 171 d_X_init_149 rfl (by decide) ?_
  refine zj_aload_n d_X_init_152 rfl ?_
  refine zj_getR fl_X_28 (fun _ _ _ _ => rfl) d_X_init_153 (fun v71 => ?_)
  refine zj_iload_n d_X_init_156 rfl ?_
  refine zj_new zcls7 (by decide) cn_X_26 in_7 ii_7 (by decide) d_X_init_157 (fun a72 u73 => ?_)
  refine zj_dup d_X_init_160 (zr_cat _ _) ?_
  refine zj_callIN (mc2 := 3) (ms2 := 203) [] zm_I_Text_init rfl mn_X_83 (fun _ h => B_Text_init g (d + 75) h) (Nat.le_refl _) (by decide) rfl rfl (by simp [zr_cat, zcI, zcJ]) d_X_init_161 (fun u74 => ?_)
  refine zj_aastore (T := zT7) (N0 := 4) 5 rfl rfl d_X_init_164 (fun u75 => ?_)
  refine zj_iinc (v := 1) [some (zr g (some this)), some (.int 1)] d_X_init_165 rfl (by decide) (by decide) rfl rfl ?_
  refine zj_goto 146 d_X_init_168 rfl ?_
  refine zj_iload_n d_X_init_146 rfl ?_
  refine zj_bipush 6 d_X_init_147 (by decide) ?_
  refine zj_icmp_ge_f 171 d_X_init_149 rfl (by decide) ?_
  refine zj_aload_n d_X_init_152 rfl ?_
  refine zj_getR fl_X_28 (fun _ _ _ _ => rfl) d_X_init_153 (fun v76 => ?_)
  refine zj_iload_n d_X_init_156 rfl ?_
  refine zj_new zcls7 (by decide) cn_X_26 in_7 ii_7 (by decide) d_X_init_157 (fun a77 u78 => ?_)
  refine zj_dup d_X_init_160 (zr_cat _ _) ?_
  refine zj_callIN (mc2 := 3) (ms2 := 203) [] zm_I_Text_init rfl mn_X_83 (fun _ h => B_Text_init g (d + 75) h) (Nat.le_refl _) (by decide) rfl rfl (by simp [zr_cat, zcI, zcJ]) d_X_init_161 (fun u79 => ?_)
  refine zj_aastore (T := zT7) (N0 := 4) 5 rfl rfl d_X_init_164 (fun u80 => ?_)
  refine zj_iinc (v := 2) [some (zr g (some this)), some (.int 2)] d_X_init_165 rfl (by decide) (by decide) rfl rfl ?_
  refine zj_goto 146 d_X_init_168 rfl ?_
  refine zj_iload_n d_X_init_146 rfl ?_
  refine zj_bipush 6 d_X_init_147 (by decide) ?_
  refine zj_icmp_ge_f 171 d_X_init_149 rfl (by decide) ?_
  refine zj_aload_n d_X_init_152 rfl ?_
  refine zj_getR fl_X_28 (fun _ _ _ _ => rfl) d_X_init_153 (fun v81 => ?_)
  refine zj_iload_n d_X_init_156 rfl ?_
  refine zj_new zcls7 (by decide) cn_X_26 in_7 ii_7 (by decide) d_X_init_157 (fun a82 u83 => ?_)
  refine zj_dup d_X_init_160 (zr_cat _ _) ?_
  refine zj_callIN (mc2 := 3) (ms2 := 203) [] zm_I_Text_init rfl mn_X_83 (fun _ h => B_Text_init g (d + 75) h) (Nat.le_refl _) (by decide) rfl rfl (by simp [zr_cat, zcI, zcJ]) d_X_init_161 (fun u84 => ?_)
  refine zj_aastore (T := zT7) (N0 := 4) 5 rfl rfl d_X_init_164 (fun u85 => ?_)
  refine zj_iinc (v := 3) [some (zr g (some this)), some (.int 3)] d_X_init_165 rfl (by decide) (by decide) rfl rfl ?_
  refine zj_goto 146 d_X_init_168 rfl ?_
  refine zj_iload_n d_X_init_146 rfl ?_
  refine zj_bipush 6 d_X_init_147 (by decide) ?_
  refine zj_icmp_ge_f 171 d_X_init_149 rfl (by decide) ?_
  refine zj_aload_n d_X_init_152 rfl ?_
  refine zj_getR fl_X_28 (fun _ _ _ _ => rfl) d_X_init_153 (fun v86 => ?_)
  refine zj_iload_n d_X_init_156 rfl ?_
  refine zj_new zcls7 (by decide) cn_X_26 in_7 ii_7 (by decide) d_X_init_157 (fun a87 u88 => ?_)
  refine zj_dup d_X_init_160 (zr_cat _ _) ?_
  refine zj_callIN (mc2 := 3) (ms2 := 203) [] zm_I_Text_init rfl mn_X_83 (fun _ h => B_Text_init g (d + 75) h) (Nat.le_refl _) (by decide) rfl rfl (by simp [zr_cat, zcI, zcJ]) d_X_init_161 (fun u89 => ?_)
  refine zj_aastore (T := zT7) (N0 := 4) 5 rfl rfl d_X_init_164 (fun u90 => ?_)
  refine zj_iinc (v := 4) [some (zr g (some this)), some (.int 4)] d_X_init_165 rfl (by decide) (by decide) rfl rfl ?_
  refine zj_goto 146 d_X_init_168 rfl ?_
  refine zj_iload_n d_X_init_146 rfl ?_
  refine zj_bipush 6 d_X_init_147 (by decide) ?_
  refine zj_icmp_ge_f 171 d_X_init_149 rfl (by decide) ?_
  refine zj_aload_n d_X_init_152 rfl ?_
  refine zj_getR fl_X_28 (fun _ _ _ _ => rfl) d_X_init_153 (fun v91 => ?_)
  refine zj_iload_n d_X_init_156 rfl ?_
  refine zj_new zcls7 (by decide) cn_X_26 in_7 ii_7 (by decide) d_X_init_157 (fun a92 u93 => ?_)
  refine zj_dup d_X_init_160 (zr_cat _ _) ?_
  refine zj_callIN (mc2 := 3) (ms2 := 203) [] zm_I_Text_init rfl mn_X_83 (fun _ h => B_Text_init g (d + 75) h) (Nat.le_refl _) (by decide) rfl rfl (by simp [zr_cat, zcI, zcJ]) d_X_init_161 (fun u94 => ?_)
  refine zj_aastore (T := zT7) (N0 := 4) 5 rfl rfl d_X_init_164 (fun u95 => ?_)
  refine zj_iinc (v := 5) [some (zr g (some this)), some (.int 5)] d_X_init_165 rfl (by decide) (by decide) rfl rfl ?_
  refine zj_goto 146 d_X_init_168 rfl ?_
  refine zj_iload_n d_X_init_146 rfl ?_
  refine zj_bipush 6 d_X_init_147 (by decide) ?_
  refine zj_icmp_ge_f 171 d_X_init_149 rfl (by decide) ?_
  refine zj_aload_n d_X_init_152 rfl ?_
  refine zj_getR fl_X_28 (fun _ _ _ _ => rfl) d_X_init_153 (fun v96 => ?_)
  refine zj_iload_n d_X_init_156 rfl ?_
  refine zj_new zcls7 (by decide) cn_X_26 in_7 ii_7 (by decide) d_X_init_157 (fun a97 u98 => ?_)
  refine zj_dup d_X_init_160 (zr_cat _ _) ?_
  refine zj_callIN (mc2 := 3) (ms2 := 203) [] zm_I_Text_init rfl mn_X_83 (fun _ h => B_Text_init g (d + 75) h) (Nat.le_refl _) (by decide) rfl rfl (by simp [zr_cat, zcI, zcJ]) d_X_init_161 (fun u99 => ?_)
  refine zj_aastore (T := zT7) (N0 := 4) 5 rfl rfl d_X_init_164 (fun u100 => ?_)
  refine zj_iinc (v := 6) [some (zr g (some this)), some (.int 6)] d_X_init_165 rfl (by decide) (by decide) rfl rfl ?_
  refine zj_goto 146 d_X_init_168 rfl ?_
  refine zj_iload_n d_X_init_146 rfl ?_
  refine zj_bipush 6 d_X_init_147 (by decide) ?_
  refine zj_icmp_ge_t 171 d_X_init_149 rfl (by decide) ?_
  refine zj_iconst 0 d_X_init_171 (by decide) ?_
  refine zj_istore_n [some (zr g (some this)), some (.int 0)] d_X_init_172 (by decide) rfl rfl ?_
  refine zj_iload_n d_X_init_173 rfl ?_
  refine zj_iconst 4 d_X_init_174 (by decide) ?_
  refine zj_icmp_ge_f 197 d_X_init_175 rfl (by decide) ?_
  refine zj_aload_n d_X_init_178 rfl ?_
  refine zj_getR fl_X_65 (fun _ _ _ _ => rfl) d_X_init_179 (fun v101 => ?_)
  refine zj_iload_n d_X_init_182 rfl ?_
  refine zj_new zcls6 (by decide) cn_X_63 in_6 ii_6 (by decide) d_X_init_183 (fun a102 u103 => ?_)
  refine zj_dup d_X_init_186 (zr_cat _ _) ?_
  refine zj_callIN (mc2 := 1) (ms2 := 40) [] zm_I_Sheet_init rfl mn_X_84 (fun _ h => B_Sheet_init g (d + 75) h) (Nat.le_refl _) (by decide) rfl rfl (by simp [zr_cat, zcI, zcJ]) d_X_init_187 (fun u104 => ?_)
  refine zj_aastore (T := zT6) (N0 := 3) 6 rfl rfl d_X_init_190 (fun u105 => ?_)
  refine zj_iinc (v := 1) [some (zr g (some this)), some (.int 1)] d_X_init_191 rfl (by decide) (by decide) rfl rfl ?_
  refine zj_goto 173 d_X_init_194 rfl ?_
  refine zj_iload_n d_X_init_173 rfl ?_
  refine zj_iconst 4 d_X_init_174 (by decide) ?_
  refine zj_icmp_ge_f 197 d_X_init_175 rfl (by decide) ?_
  refine zj_aload_n d_X_init_178 rfl ?_
  refine zj_getR fl_X_65 (fun _ _ _ _ => rfl) d_X_init_179 (fun v106 => ?_)
  refine zj_iload_n d_X_init_182 rfl ?_
  refine zj_new zcls6 (by decide) cn_X_63 in_6 ii_6 (by decide) d_X_init_183 (fun a107 u108 => ?_)
  refine zj_dup d_X_init_186 (zr_cat _ _) ?_
  refine zj_callIN (mc2 := 1) (ms2 := 40) [] zm_I_Sheet_init rfl mn_X_84 (fun _ h => B_Sheet_init g (d + 75) h) (Nat.le_refl _) (by decide) rfl rfl (by simp [zr_cat, zcI, zcJ]) d_X_init_187 (fun u109 => ?_)
  refine zj_aastore (T := zT6) (N0 := 3) 6 rfl rfl d_X_init_190 (fun u110 => ?_)
  refine zj_iinc (v := 2) [some (zr g (some this)), some (.int 2)] d_X_init_191 rfl (by decide) (by decide) rfl rfl ?_
  refine zj_goto 173 d_X_init_194 rfl ?_
  refine zj_iload_n d_X_init_173 rfl ?_
  refine zj_iconst 4 d_X_init_174 (by decide) ?_
  refine zj_icmp_ge_f 197 d_X_init_175 rfl (by decide) ?_
  refine zj_aload_n d_X_init_178 rfl ?_
  refine zj_getR fl_X_65 (fun _ _ _ _ => rfl) d_X_init_179 (fun v111 => ?_)
  refine zj_iload_n d_X_init_182 rfl ?_
  refine zj_new zcls6 (by decide) cn_X_63 in_6 ii_6 (by decide) d_X_init_183 (fun a112 u113 => ?_)
  refine zj_dup d_X_init_186 (zr_cat _ _) ?_
  refine zj_callIN (mc2 := 1) (ms2 := 40) [] zm_I_Sheet_init rfl mn_X_84 (fun _ h => B_Sheet_init g (d + 75) h) (Nat.le_refl _) (by decide) rfl rfl (by simp [zr_cat, zcI, zcJ]) d_X_init_187 (fun u114 => ?_)
  refine zj_aastore (T := zT6) (N0 := 3) 6 rfl rfl d_X_init_190 (fun u115 => ?_)
  refine zj_iinc (v := 3) [some (zr g (some this)), some (.int 3)] d_X_init_191 rfl (by decide) (by decide) rfl rfl ?_
  refine zj_goto 173 d_X_init_194 rfl ?_
  refine zj_iload_n d_X_init_173 rfl ?_
  refine zj_iconst 4 d_X_init_174 (by decide) ?_
  refine zj_icmp_ge_f 197 d_X_init_175 rfl (by decide) ?_
  refine zj_aload_n d_X_init_178 rfl ?_
  refine zj_getR fl_X_65 (fun _ _ _ _ => rfl) d_X_init_179 (fun v116 => ?_)
  refine zj_iload_n d_X_init_182 rfl ?_
  refine zj_new zcls6 (by decide) cn_X_63 in_6 ii_6 (by decide) d_X_init_183 (fun a117 u118 => ?_)
  refine zj_dup d_X_init_186 (zr_cat _ _) ?_
  refine zj_callIN (mc2 := 1) (ms2 := 40) [] zm_I_Sheet_init rfl mn_X_84 (fun _ h => B_Sheet_init g (d + 75) h) (Nat.le_refl _) (by decide) rfl rfl (by simp [zr_cat, zcI, zcJ]) d_X_init_187 (fun u119 => ?_)
  refine zj_aastore (T := zT6) (N0 := 3) 6 rfl rfl d_X_init_190 (fun u120 => ?_)
  refine zj_iinc (v := 4) [some (zr g (some this)), some (.int 4)] d_X_init_191 rfl (by decide) (by decide) rfl rfl ?_
  refine zj_goto 173 d_X_init_194 rfl ?_
  refine zj_iload_n d_X_init_173 rfl ?_
  refine zj_iconst 4 d_X_init_174 (by decide) ?_
  refine zj_icmp_ge_t 197 d_X_init_175 rfl (by decide) ?_
  refine zj_aload_n d_X_init_197 rfl ?_
  refine zj_new zcls5 (by decide) cn_X_85 in_5 ii_5 (by decide) d_X_init_198 (fun a121 u122 => ?_)
  refine zj_dup d_X_init_201 (zr_cat _ _) ?_
  refine zj_aload_n d_X_init_202 rfl ?_
  refine zj_getR fl_X_28 (fun _ _ _ _ => rfl) d_X_init_203 (fun v123 => ?_)
  refine zj_iconst 0 d_X_init_206 (by decide) ?_
  refine zj_aaload 5 rfl d_X_init_207 (fun v124 => ?_)
  refine zj_callI (mc2 := 1) (ms2 := 160) [zr g v124] zm_I_Reader_init rfl ml_X_87 (fun _ h => B_Reader_init g (d + 75) h) (Nat.le_refl _) (by decide) rfl rfl (by simp [zr_cat, zcI, zcJ]) d_X_init_208 (fun u125 => ?_)
  refine zj_putFR fl_X_90 ⟨rfl, rfl⟩ (fun _ _ _ _ => rfl) (znfO _) d_X_init_211 (fun u126 => ?_)
  refine zj_iconst 0 d_X_init_214 (by decide) ?_
  refine zj_istore_n [some (zr g (some this)), some (.int 0)] d_X_init_215 (by decide) rfl rfl ?_
  refine zj_fix2 (fun u128 x129 => [some (zr g (some this)), some (.int x129)]) (fun u128 x129 => u128) (fun r127 hr127 u128 x129 => ?_) u126 0
  refine zj_iload_n d_X_init_216 rfl ?_
  refine zj_ldcS0 ⟨rfl, rfl⟩ d_X_init_217 ?_
  refine zj_strlen0 ml_X_96 (by omega) (by decide) (by simp [zr_cat, zcI, zcJ]) d_X_init_219 ?_
  refine zj_icmp_ge 244 d_X_init_222 rfl (fun _ => ?_) (fun _ => ?_)
  · refine zj_aload_n d_X_init_244 rfl ?_
    refine zj_getR fl_X_90 (fun _ _ _ _ => rfl) d_X_init_245 (fun v130 => ?_)
    refine zj_aload_n d_X_init_248 rfl ?_
    refine zj_getR fl_X_28 (fun _ _ _ _ => rfl) d_X_init_249 (fun v131 => ?_)
    refine zj_iconst 0 d_X_init_252 (by decide) ?_
    refine zj_aaload 5 rfl d_X_init_253 (fun v132 => ?_)
    refine zj_cVI (ci := 5) (T := zT5) (N := 8) [zr g v132] zm_V_Reader_read ml_X_110 rfl (fun _ _ h => B_Reader_read g (d) h) (Nat.le_refl _) (by decide) rfl rfl (by decide) d_X_init_254 (fun v133 u134 => ?_)
    refine zj_pop d_X_init_257 rfl ?_
    refine zj_aload_n d_X_init_258 rfl ?_
    refine zj_iconst 1 d_X_init_259 (by decide) ?_
    refine zj_putI fl_X_32 (fun _ _ _ _ => rfl) ⟨rfl, rfl⟩ d_X_init_260 (fun u136 => ?_)
    exact zj_vret rfl rfl rfl rfl d_X_init_263
  refine zj_aload_n d_X_init_225 rfl ?_
  refine zj_getR fl_X_90 (fun _ _ _ _ => rfl) d_X_init_226 (fun v137 => ?_)
  refine zj_ldcS0 ⟨rfl, rfl⟩ d_X_init_229 ?_
  refine zj_iload_n d_X_init_231 rfl ?_
  refine zj_strch0 ml_X_102 (by omega) (by decide) (by simp [zr_cat, zcI, zcJ]) d_X_init_232 (fun v138 => ?_)
  refine zj_cVU (ci := 5) (T := zT5) (N := 8) [.int v138] zm_V_Reader_take ml_X_106 rfl (fun _ _ h => B_Reader_take g (d + 75) h) (Nat.le_refl _) (by decide) rfl rfl (by decide) d_X_init_235 (fun u140 => ?_)
  refine zj_iinc (v := (x129 + 1)) [some (zr g (some this)), some (.int (x129 + 1))] d_X_init_238 rfl rfl (by decide) rfl rfl ?_
  refine zj_goto 216 d_X_init_241 rfl ?_
  exact hr127 u140 (x129 + 1)
