-- ===== sheet, cell =====
section S
variable {n p yr tx rl tp c : Nat} {μ : zS}
def zfg (A b : Nat) (f : Nat → Int32) (μ : zS) : Nat → zS
  | 0 => μ
  | i + 1 => zuI (zfg A b f μ i) A (b + i) (f i)
theorem zfg_fr {A b : Nat} {f : Nat → Int32} (hf : zFr μ) : ∀ i, zFr (zfg A b f μ i)
  | 0 => hf
  | i + 1 => fr_uI (zfg_fr hf i)
theorem zfg_at {A b : Nat} {f : Nat → Int32} (a k : Nat) : ∀ i, (zfg A b f μ i).2.1 a k = if a = A ∧ b ≤ k ∧ k < b + i then f (k - b) else μ.2.1 a k
  | 0 => by rw [if_neg (by omega)]; rfl
  | i + 1 => by
    show (zuI (zfg A b f μ i) A (b + i) (f i)).2.1 a k = _
    rw [uI_at, zfg_at a k i]
    by_cases h2 : a = A ∧ k = b + i
    · rw [if_pos h2, if_pos (by omega), show k - b = i by omega]
    · rw [if_neg h2]
      by_cases h3 : a = A ∧ b ≤ k ∧ k < b + i
      · rw [if_pos h3, if_pos (by omega)]
      · rw [if_neg h3, if_neg (by omega)]
theorem zSx_sh {μ2 : zS} (h : zSt n p yr tx rl tp c μ) (hf2 : zFr μ2) (hoff : ∀ a k, ¬ (63 ≤ a ∧ a ≤ 70) → ¬ (99 ≤ a ∧ a ≤ 102) → μ2.2.1 a k = μ.2.1 a k) (hSh2 : zSh μ2.2.1) : zSx (c + 1) μ2 := by
  obtain ⟨hf, hP, hPe, hAs, hTa, hBa, hYr, hTp, hTx, hIm, hSh, hLt⟩ := id h
  refine ⟨n, p, yr, tx, rl, tp, hf2, ?_⟩
  refine ⟨zP_c hP ?_, zPe_c hPe ?_, zAs_m (zAs_c hAs ?_) (Nat.le_succ c) (Nat.le_refl p), zTa_c hTa ?_, zBa_c hBa ?_, zYr_c hYr ?_, zTp_c hTp ?_, zTx_c hTx ?_, zIm_m (zIm_c hIm ?_) (Nat.le_refl n) (Nat.le_refl p) (Nat.le_refl tx) (Nat.le_succ c), hSh2, zLt_c hLt ?_⟩
  all_goals (intro a k hak; exact hoff a k (by omega) (by omega))
theorem X_isSheet (u : zS) (x : Int32) : F_X_isSheet u x = some (if nI 0 ≤ x ∧ x < nI 4 then nI 1 else nI 0) := by
  unfold F_X_isSheet
  by_cases h1 : x < 0
  · rw [if_pos h1, if_neg (fun z => absurd z.1 (Int32.not_le.mpr h1))]; rfl
  · rw [if_neg h1]
    by_cases h2 : 4 ≤ x
    · rw [if_pos h2, if_neg (fun z => absurd z.2 (Int32.not_lt.mpr h2))]; rfl
    · rw [if_neg h2, if_pos ⟨Int32.not_lt.mp h1, Int32.not_le.mp h2⟩]; rfl
theorem M_isSheet (u : zS) (x : Int32) : F_M_isSheet u x = some (if nI 0 ≤ x ∧ x < nI 4 then nI 1 else nI 0) := by
  unfold F_M_isSheet
  rw [M_inL u x 3 (by decide) (z := 3) rfl]
  exact zrz01
theorem zln_S {d : Nat} (hf : zFr μ) (hd : d < 4) : zln μ .int (some (64 + 2 * d)) = some (nI 40) := by
  simp only [zln, hf.1, lay_S_2 d hd]
  rfl
theorem X_become {d : Nat} {s z : Int32} (hf : zFr μ) (hd : d < 4) : F_Sheet_become μ (63 + 2 * d) s z = some (zfg (64 + 2 * d) 0 (fun _ => 0) (zuI (zuI μ (63 + 2 * d) 0 s) (63 + 2 * d) 1 z) 40) := by
  unfold F_Sheet_become
  simp (disch := first | omega | assumption | exact Or.inl rfl | exact Or.inr rfl | (repeat (first | assumption | apply fr_uI | apply fr_uJ)) ) only [fo_0, fo_1, fo_6, fo_9, fo_13, fo_71, fo_73, fo_P, fo_T, fo_S, gI_0, gI_1, gI_6, gI_9, gI_13, gI_71, gI_73, gI_P, gI_T, gI_S, gR_0_0, gR_0_1, gR_0_3, gR_0_4, gR_0_7, gR_0_8, gR_0_9, gR_0_10, gR_0_11, gR_1_2, gR_6_1, gR_6_2, gR_9_2, gR_9_3, gR_9_4, gR_13_1, gR_13_2, gR_13_3, gR_71_1, gR_73_2, gR_73_3, gR_73_5, gR_73_6, gR_73_7, gR_73_8, gR_73_9, gR_73_11, gR_73_12, gR_73_13, gR_73_14, gR_73_18, gR_73_19, gR_73_20, gR_73_29, gR_73_30, gR_73_31, gR_73_32, gR_73_33, gR_73_34, gR_73_35, gR_73_45, gR_73_46, gR_73_47, gR_73_48, gR_73_49, gR_73_50, gR_73_51, gR_73_52, gR_P_5, gR_P_8, gR_T_0, gR_T_2, gR_T_3, gR_S_2, pI_0, pI_1, pI_6, pI_9, pI_13, pI_71, pI_73, pI_P, pI_T, pI_S, aR_3, aR_4, aR_17, aI_P_5, aI_P_8, aI_T_0, aI_T_2, aI_T_3, aI_S_2, aI_2, aI_5, aI_7, aI_8, aI_10, aI_11, aI_12, aI_14, aI_15, aI_72, aI_74, aI_75, aI_76, aI_77, aI_78, aI_79, aI_80, aI_81, aI_82, aI_83, aI_84, aI_85, aI_86, aI_87, aI_88, aI_89, aI_90, aI_91, aI_92, aI_93, aI_94, aI_95, aI_96, aI_97, aI_98, aI_99, aI_100, aI_101, aI_102, aI_103, sI_P_5, sI_P_8, sI_T_0, sI_T_2, sI_T_3, sI_S_2, sI_2, sI_5, sI_7, sI_8, sI_10, sI_11, sI_12, sI_14, sI_15, sI_72, sI_75, sI_76, sI_77, sI_78, sI_79, sI_80, sI_81, sI_84, sI_85, sI_86, sI_87, sI_89, sI_90, sI_91, sI_92, sI_93, sI_94, sI_95, sI_98, sI_99, sI_100, sI_101, sI_102, sI_103, aJ_16, sJ_16, zk_some, zb_some, zlet_eq, zjn1_eq, zjn2_eq, zjn3_eq, zjn4_eq, zjn5_eq, zjn6_eq, zjn7_eq, ite_true, ite_false, reduceIte, Nat.reduceEqDiff, and_true, true_and, false_and, and_false, reduceCtorEq, eq_self]
  generalize hμ1 : zuI (zuI μ (63 + 2 * d) 0 s) (63 + 2 * d) 1 z = μ1
  have hf1 : zFr μ1 := by rw [← hμ1]; exact fr_uI (fr_uI hf)
  unfold F_Arrays_fill
  rw [zln_S hf1 hd, zb_some]
  have : zfix2 (fun (r2 : zS → Int32 → Option (zS)) (u3 : zS) (x4 : Int32) => if nI 40 ≤ x4 then (some u3) else ((zsI u3 (some (64 + 2 * d)) x4 0).bind fun u5 => r2 u5 (x4 + 1))) zFU μ1 0 = some (zfg (64 + 2 * d) 0 (fun _ => 0) μ1 40) := by
    refine fix2_t 40 (fun i => zfg (64 + 2 * d) 0 (fun _ => 0) μ1 i) (fun i => nI i) ?_ ?_ (zFU_lt (by omega))
    · intro r i hi
      have hfi := zfg_fr (A := 64 + 2 * d) (b := 0) (f := fun _ => 0) hf1 i
      rw [if_neg (show ¬ nI 40 ≤ nI i by rw [nI_leI (by omega) (by omega)]; omega), sI_S_2 hfi hd hi, zb_some, show nI i + 1 = nI (i + 1) from nI_add i 1]
      show r (zuI _ _ i 0) _ = r (zuI _ _ (0 + i) 0) _
      rw [Nat.zero_add]
    · intro r
      rw [if_pos (Int32.le_refl _)]
  rw [this, zb_some]
theorem M_clear {d : Nat} (hf : zFr μ) (hd : d < 4) : zfix2 (fun (r9 : zS → Int32 → Option (Int32 × zS)) (u10 : zS) (x11 : Int32) => if (((40 : Int32) * nI d) + 40) ≤ x11 then (some (1, u10)) else ((zgR u10 9 (some 73) 51).bind fun v12 => (zsI u10 v12 x11 0).bind fun u13 => r9 u13 (x11 + 1))) zFU μ ((40 : Int32) * nI d) = some (1, zfg 101 (40 * d) (fun _ => 0) μ 40) := by
  rw [show (40 : Int32) = nI 40 from rfl, pk_mul, nI_add]
  refine fix2_t 40 (fun i => zfg 101 (40 * d) (fun _ => 0) μ i) (fun i => nI (40 * d + i)) ?_ ?_ (zFU_lt (by omega))
  · intro r i hi
    have hfi := zfg_fr (A := 101) (b := 40 * d) (f := fun _ => 0) hf i
    rw [if_neg (show ¬ nI (40 * d + 40) ≤ nI (40 * d + i) by rw [nI_leI (by omega) (by omega)]; omega), gR_73_51 hfi, zb_some, sI_101 hfi (by omega), zb_some, show nI (40 * d + i) + 1 = nI (40 * d + i + 1) from nI_add _ 1]
    rfl
  · intro r
    rw [if_pos (Int32.le_refl _)]
theorem M_sheet_ok {d : Nat} {s z : Int32} (hf : zFr μ) (hd : d < 4) (hs : s = (-1) ∨ ∃ k, k < 3 ∧ s = nI k) (hz : ¬ s = (-1) → ∃ j, j ≤ 40 ∧ z = nI j) : F_M_sheet μ 73 (nI d) s z = some (1, zfg 101 (40 * d) (fun _ => 0) (zuI (zuI μ 99 d s) 100 d (if s = (-1) then 0 else z)) 40) := by
  unfold F_M_sheet
  rw [M_isSheet, if_pos (zc_lt hd (by decide)), zb_some, if_neg (show ¬ nI 1 = 0 by decide)]
  rw [show (-1 : Int64) = (-1 : Int32).toInt64 from rfl, show (2 : Int64) = (nI 2).toInt64 from rfl, n_in]
  rcases hs with rfl | ⟨k, hk, rfl⟩
  · rw [if_pos (show ((-1 : Int32) ≤ (-1) ∧ (-1 : Int32) ≤ nI 2) by decide), zb_some, if_neg (show ¬ nI 1 = 0 by decide)]
    rw [if_pos (show (-1 : Int32) < 0 by decide), if_pos (show (-1 : Int32) < 0 by decide), if_pos (show (-1 : Int32) = -1 from rfl)]
    simp only [if_neg (show ¬ (0 : Int32) ≤ -1 by decide), zjn1_eq]
    rw [gR_73_49 hf, zb_some, sI_99 hf hd, zb_some, gR_73_50 (fr_uI hf), zb_some, sI_100 (fr_uI hf) hd, zb_some]
    exact M_clear (fr_uI (fr_uI hf)) hd
  · have hk1 : ¬ nI k = -1 := nI_n1 (by omega)
    obtain ⟨j, hj, rfl⟩ := hz hk1
    have h0 : (0 : Int32) ≤ nI k := nI_nn (by omega)
    rw [if_pos (show ((-1 : Int32) ≤ nI k ∧ nI k ≤ nI 2) from ⟨Int32.le_trans (by decide) h0, (nI_leI (by omega) (by omega)).mpr (by omega)⟩), zb_some, if_neg (show ¬ nI 1 = 0 by decide)]
    rw [if_neg (Int32.not_lt.mpr h0), if_pos (show nI j ≤ 40 from (nI_leI (by omega) (by decide)).mpr hj), if_neg (Int32.not_lt.mpr h0), if_pos (show 0 ≤ nI j from nI_nn (by omega)), if_neg hk1]
    simp only [if_pos h0, zjn1_eq]
    rw [gR_73_49 hf, zb_some, sI_99 hf hd, zb_some, gR_73_50 (fr_uI hf), zb_some, sI_100 (fr_uI hf) hd, zb_some]
    exact M_clear (fr_uI (fr_uI hf)) hd
theorem zSh_new {d : Nat} {s z : Int32} (hd : d < 4) (hSh : zSh μ.2.1) (hs : s = (-1) ∨ s = 0 ∨ s = 1 ∨ s = 2) (hz : zRg z 40) : zSh (zfg 101 (40 * d) (fun _ => 0) (zuI (zuI (zfg (64 + 2 * d) 0 (fun _ => 0) (zuI (zuI μ (63 + 2 * d) 0 s) (63 + 2 * d) 1 z) 40) 99 d s) 100 d z) 40).2.1 := by
  intro d' hd'
  have := hSh d' hd'
  generalize hμ2 : (zfg 101 (40 * d) (fun _ => 0) (zuI (zuI (zfg (64 + 2 * d) 0 (fun _ => 0) (zuI (zuI μ (63 + 2 * d) 0 s) (63 + 2 * d) 1 z) 40) 99 d s) 100 d z) 40) = μ2
  have hat : ∀ a k, μ2.2.1 a k = if a = 101 ∧ 40 * d ≤ k ∧ k < 40 * d + 40 then 0 else if a = 100 ∧ k = d then z else if a = 99 ∧ k = d then s else if a = 64 + 2 * d ∧ 0 ≤ k ∧ k < 0 + 40 then 0 else if a = 63 + 2 * d ∧ k = 1 then z else if a = 63 + 2 * d ∧ k = 0 then s else μ.2.1 a k := by
    intro a k
    rw [← hμ2]
    simp only [zfg_at, uI_at]
  by_cases hdd : d' = d
  · subst hdd
    have e1 : μ2.2.1 (63 + 2 * d') 0 = s := by rw [hat]; (repeat (first | rw [if_neg (by omega)] | rw [if_pos (by omega)]))
    have e2 : μ2.2.1 99 d' = s := by rw [hat]; (repeat (first | rw [if_neg (by omega)] | rw [if_pos (by omega)]))
    have e3 : μ2.2.1 (63 + 2 * d') 1 = z := by rw [hat]; (repeat (first | rw [if_neg (by omega)] | rw [if_pos (by omega)]))
    have e4 : μ2.2.1 100 d' = z := by rw [hat]; (repeat (first | rw [if_neg (by omega)] | rw [if_pos (by omega)]))
    refine ⟨e1.trans e2.symm, by rw [e2]; exact hs, e3.trans e4.symm, by rw [e4]; exact hz, ?_⟩
    intro k hk
    have e5 : μ2.2.1 (64 + 2 * d') k = 0 := by rw [hat]; (repeat (first | rw [if_neg (by omega)] | rw [if_pos (by omega)]))
    have e6 : μ2.2.1 101 (40 * d' + k) = 0 := by rw [hat]; (repeat (first | rw [if_neg (by omega)] | rw [if_pos (by omega)]))
    rw [e5, e6]
  · have e1 : μ2.2.1 (63 + 2 * d') 0 = μ.2.1 (63 + 2 * d') 0 := by rw [hat]; (repeat (first | rw [if_neg (by omega)] | rw [if_pos (by omega)]))
    have e2 : μ2.2.1 99 d' = μ.2.1 99 d' := by rw [hat]; (repeat (first | rw [if_neg (by omega)] | rw [if_pos (by omega)]))
    have e3 : μ2.2.1 (63 + 2 * d') 1 = μ.2.1 (63 + 2 * d') 1 := by rw [hat]; (repeat (first | rw [if_neg (by omega)] | rw [if_pos (by omega)]))
    have e4 : μ2.2.1 100 d' = μ.2.1 100 d' := by rw [hat]; (repeat (first | rw [if_neg (by omega)] | rw [if_pos (by omega)]))
    rw [e1, e2, e3, e4]
    refine ⟨this.1, this.2.1, this.2.2.1, this.2.2.2.1, ?_⟩
    intro k hk
    have e5 : μ2.2.1 (64 + 2 * d') k = μ.2.1 (64 + 2 * d') k := by rw [hat]; (repeat (first | rw [if_neg (by omega)] | rw [if_pos (by omega)]))
    have e6 : μ2.2.1 101 (40 * d' + k) = μ.2.1 101 (40 * d' + k) := by rw [hat]; (repeat (first | rw [if_neg (by omega)] | rw [if_pos (by omega)]))
    rw [e5, e6]
    exact this.2.2.2.2 k hk
theorem K_sheet (h : zSt n p yr tx rl tp c μ) (a b z : Int32) : zOk c (fun u => F_X_sheet u 0 a b z) (fun u => F_M_sheet u 73 a b z) μ := by
  obtain ⟨hf, hP, hPe, hAs, hTa, hBa, hYr, hTp, hTx, hIm, hSh, hLt⟩ := id h
  rcases zcase a (n := 4) (by decide) with ⟨d, hd, rfl⟩ | ha
  · have ed := zc_lt hd (show 4 < 2 ^ 31 by decide)
    have ok : ∀ v : Int32, (b = (-1) ∨ ∃ k, k < 3 ∧ b = nI k) → (¬ b = (-1) → ∃ j, j ≤ 40 ∧ z = nI j) → v = (if b = (-1) then 0 else z) → F_X_sheet μ 0 (nI d) b z = ((F_Sheet_become μ (63 + 2 * d) b v).bind fun u5 => some (1, u5)) → zOk c (fun u => F_X_sheet u 0 (nI d) b z) (fun u => F_M_sheet u 73 (nI d) b z) μ := by
      intro v hb hz hv hX
      rw [X_become hf hd, zb_some] at hX
      have hM := M_sheet_ok (μ := zfg (64 + 2 * d) 0 (fun _ => 0) (zuI (zuI μ (63 + 2 * d) 0 b) (63 + 2 * d) 1 v) 40) (zfg_fr (fr_uI (fr_uI hf)) 40) hd hb hz
      rw [← hv] at hM
      have hvr : zRg v 40 := by
        rw [hv]
        by_cases hb1 : b = (-1)
        · rw [if_pos hb1]; exact ⟨by decide, by decide⟩
        · rw [if_neg hb1]
          obtain ⟨j, hj, rfl⟩ := hz hb1
          exact zRg_nI hj (by decide)
      have hbs : b = (-1) ∨ b = 0 ∨ b = 1 ∨ b = 2 := by
        rcases hb with hb | ⟨k, hk, rfl⟩
        · exact Or.inl hb
        · rcases (show k = 0 ∨ k = 1 ∨ k = 2 by omega) with rfl | rfl | rfl
          · exact Or.inr (Or.inl rfl)
          · exact Or.inr (Or.inr (Or.inl rfl))
          · exact Or.inr (Or.inr (Or.inr rfl))
      refine ⟨_, _, _, hX, zfg_fr (fr_uI (fr_uI hf)) 40, hM, zSx_sh h (zfg_fr (fr_uI (fr_uI (zfg_fr (fr_uI (fr_uI hf)) 40))) 40) ?_ (zSh_new hd hSh hbs hvr)⟩
      intro a k h1 h2
      simp only [zfg_at, uI_at]
      rw [if_neg (by omega), if_neg (by omega), if_neg (by omega), if_neg (by omega), if_neg (by omega), if_neg (by omega)]
    by_cases hb : (-1) ≤ b ∧ b ≤ 2
    · have h1 : ¬ b < (-1) := Int32.not_lt.mpr hb.1
      by_cases hb1 : b = (-1)
      · refine ok 0 (Or.inl hb1) (fun q => absurd hb1 q) (by rw [if_pos hb1]) ?_
        unfold F_X_sheet
        rw [X_isSheet, if_pos ed, zb_some, if_neg (show ¬ nI 1 = 0 by decide), if_neg h1, if_pos hb.2, if_pos hb1, gR_0_11 hf, zb_some, aR_17 hf hd, zb_some, fo_S hf hd, zb_some]
      · have h0 : ¬ b < 0 := by
          intro q
          have q2 : b.toInt < 0 := (fa_lt b 0).mp q
          have q3 : (-1 : Int) ≤ b.toInt := (fa_le (-1) b).mp hb.1
          have q4 : (-1 : Int32).toInt = -1 := by decide
          exact hb1 (Int32.toInt_inj.mp (by omega))
        obtain ⟨k, hk, rfl⟩ := nI_ex (m := 2) (by decide) ⟨Int32.not_lt.mp h0, hb.2⟩
        by_cases hz : z ≤ 40
        · by_cases hz0 : 0 ≤ z
          · obtain ⟨j, hj, rfl⟩ := nI_ex (m := 40) (by decide) ⟨hz0, hz⟩
            refine ok (nI j) (Or.inr ⟨k, by omega, rfl⟩) (fun _ => ⟨j, hj, rfl⟩) (by rw [if_neg hb1]) ?_
            unfold F_X_sheet
            rw [X_isSheet, if_pos ed, zb_some, if_neg (show ¬ nI 1 = 0 by decide), if_neg h1, if_pos hb.2, if_neg hb1, if_pos hz, if_pos hz0, gR_0_11 hf, zb_some, aR_17 hf hd, zb_some, fo_S hf hd, zb_some]
          · refine zOk_same (v := -14) h ?_ ?_
            · unfold F_X_sheet
              rw [X_isSheet, if_pos ed, zb_some, if_neg (show ¬ nI 1 = 0 by decide), if_neg h1, if_pos hb.2, if_neg hb1, if_pos hz, if_neg hz0]
            · unfold F_M_sheet
              rw [M_isSheet, if_pos ed, zb_some, if_neg (show ¬ nI 1 = 0 by decide), show (-1 : Int64) = (-1 : Int32).toInt64 from rfl, show (2 : Int64) = (2 : Int32).toInt64 from rfl, n_in, if_pos hb, zb_some, if_neg (show ¬ nI 1 = 0 by decide), if_neg h0, if_pos hz, if_neg h0, if_neg hz0]
        · refine zOk_same (v := -2) h ?_ ?_
          · unfold F_X_sheet
            rw [X_isSheet, if_pos ed, zb_some, if_neg (show ¬ nI 1 = 0 by decide), if_neg h1, if_pos hb.2, if_neg hb1, if_neg hz]
          · unfold F_M_sheet
            rw [M_isSheet, if_pos ed, zb_some, if_neg (show ¬ nI 1 = 0 by decide), show (-1 : Int64) = (-1 : Int32).toInt64 from rfl, show (2 : Int64) = (2 : Int32).toInt64 from rfl, n_in, if_pos hb, zb_some, if_neg (show ¬ nI 1 = 0 by decide), if_neg h0, if_neg hz]
    · refine zOk_same (v := -2) h ?_ ?_
      · unfold F_X_sheet
        rw [X_isSheet, if_pos ed, zb_some, if_neg (show ¬ nI 1 = 0 by decide)]
        by_cases h1 : b < (-1)
        · rw [if_pos h1]
        · rw [if_neg h1, if_neg (fun q => hb ⟨Int32.not_lt.mp h1, q⟩)]
      · unfold F_M_sheet
        rw [M_isSheet, if_pos ed, zb_some, if_neg (show ¬ nI 1 = 0 by decide), show (-1 : Int64) = (-1 : Int32).toInt64 from rfl, show (2 : Int64) = (2 : Int32).toInt64 from rfl, n_in, if_neg hb]
        rfl
  · refine zOk_same (v := -2) h ?_ ?_
    · unfold F_X_sheet
      rw [X_isSheet, if_neg ha]; rfl
    · unfold F_M_sheet
      rw [M_isSheet, if_neg ha]; rfl
/-- what a cell of a sort keeps -/
def zcv (s v : Int32) : Int32 := if s = 0 then v.toInt8.toInt32 else if s = 1 then v.toInt16.toInt32 else v
theorem K_cell (h : zSt n p yr tx rl tp c μ) (a b v : Int32) : zOk c (fun u => F_X_cell u 0 a b v) (fun u => F_M_cell u 73 a b v) μ := by
  obtain ⟨hf, hP, hPe, hAs, hTa, hBa, hYr, hTp, hTx, hIm, hSh, hLt⟩ := id h
  rcases zcase a (n := 4) (by decide) with ⟨d, hd, rfl⟩ | ha
  · have ed := zc_lt hd (show 4 < 2 ^ 31 by decide)
    obtain ⟨s1, s2, s3, s4, s5⟩ := hSh d hd
    obtain ⟨z, hz, hze, -⟩ := zRg_ex s4
    by_cases hs : μ.2.1 99 d = (-1)
    · refine zOk_same (v := -11) h ?_ ?_
      · unfold F_X_cell F_Sheet_isMissing
        rw [X_isSheet, if_pos ed, zb_some, if_neg (show ¬ nI 1 = 0 by decide), gR_0_11 hf, zb_some, aR_17 hf hd, zb_some, fo_S hf hd, zb_some, gI_S hf hd, zb_some, s1, hs]
        rfl
      · unfold F_M_cell
        rw [M_isSheet, if_pos ed, zb_some, if_neg (show ¬ nI 1 = 0 by decide), gR_73_49 hf, zb_some, aI_99 hf hd, zb_some, hs]
        rfl
    · have h0 : 0 ≤ μ.2.1 99 d := by
        rcases s2 with q | q | q | q
        · exact absurd q hs
        · rw [q]; decide
        · rw [q]; decide
        · rw [q]; decide
      have eX0 : ∀ u, F_X_cell μ 0 (nI d) b v = u ↔ ((F_Sheet_has μ (63 + 2 * d) b).bind fun v6 => if v6 = 0 then (some ((-12 : Int32), μ)) else ((F_Sheet_put μ (63 + 2 * d) b v).bind fun u9 => some (1, u9))) = u := by
        intro u
        unfold F_X_cell F_Sheet_isMissing
        rw [X_isSheet, if_pos ed, zb_some, if_neg (show ¬ nI 1 = 0 by decide), gR_0_11 hf, zb_some, aR_17 hf hd, zb_some, fo_S hf hd, zb_some, gI_S hf hd, zb_some, s1, if_neg hs]
        rfl
      have eH : F_Sheet_has μ (63 + 2 * d) b = some (if nI 0 ≤ b ∧ b < nI z then nI 1 else nI 0) := by
        unfold F_Sheet_has
        rw [gI_S hf hd, zb_some, s3, hze]
        by_cases h1 : b < 0
        · rw [if_pos h1, if_neg (fun q => absurd q.1 (Int32.not_le.mpr h1))]; rfl
        · rw [if_neg h1]
          by_cases h2 : nI z ≤ b
          · rw [if_pos h2, if_neg (fun q => absurd q.2 (Int32.not_lt.mpr h2))]; rfl
          · rw [if_neg h2, if_pos ⟨Int32.not_lt.mp h1, Int32.not_le.mp h2⟩]; rfl
      rcases zcase b (n := z) (by omega) with ⟨k, hk, rfl⟩ | hb
      · have ek := zc_lt hk (show z < 2 ^ 31 by omega)
        rw [if_pos ek] at eH
        have hX : F_X_cell μ 0 (nI d) (nI k) v = some (1, zuI μ (64 + 2 * d) k (zcv (μ.2.1 99 d) v)) := by
          rw [eX0]
          unfold F_Sheet_put
          rw [fo_S hf hd, zb_some, eH, zb_some, if_neg (show ¬ nI 1 = 0 by decide), zb_some, if_neg (show ¬ nI 1 = 0 by decide), gR_S_2 hf hd, zb_some, gI_S hf hd, zb_some, zb_some, s1]
          unfold zcv
          by_cases c0 : μ.2.1 99 d = 0
          · rw [if_pos c0, if_pos c0, sI_S_2 hf hd (by omega)]; rfl
          · rw [if_neg c0, if_neg c0]
            by_cases c1 : μ.2.1 99 d = 1
            · rw [if_pos c1, if_pos c1, sI_S_2 hf hd (by omega)]; rfl
            · rw [if_neg c1, if_neg c1, sI_S_2 hf hd (by omega)]; rfl
        generalize hμ1 : zuI μ (64 + 2 * d) k (zcv (μ.2.1 99 d) v) = μ1 at hX
        have hf1 : zFr μ1 := by rw [← hμ1]; exact fr_uI hf
        have ha1 : ∀ a j, μ1.2.1 a j = if a = 64 + 2 * d ∧ j = k then zcv (μ.2.1 99 d) v else μ.2.1 a j := by intro a j; rw [← hμ1, uI_at]
        have g1 : μ1.2.1 99 d = μ.2.1 99 d := by rw [ha1]; (repeat (first | rw [if_neg (by omega)] | rw [if_pos (by omega)]))
        have g2 : μ1.2.1 100 d = nI z := by rw [ha1]; (repeat (first | rw [if_neg (by omega)] | rw [if_pos (by omega)])); exact hze
        have hM : F_M_cell μ1 73 (nI d) (nI k) v = some (1, zuI μ1 101 (40 * d + k) (zcv (μ.2.1 99 d) v)) := by
          unfold F_M_cell
          rw [M_isSheet, if_pos ed, zb_some, if_neg (show ¬ nI 1 = 0 by decide), gR_73_49 hf1, zb_some, aI_99 hf1 hd, zb_some, g1, if_pos h0, gR_73_50 hf1, zb_some, aI_100 hf1 hd, zb_some, g2, M_inN _ _ (show z < 1000 by omega), if_pos ek, zb_some, if_neg (show ¬ nI 1 = 0 by decide), gR_73_51 hf1]
          rw [show (40 : Int32) = nI 40 from rfl, pk_mul, nI_add]
          simp only [zb_some, aI_99 hf1 hd, g1, sI_101 hf1 (show 40 * d + k < 160 by omega)]
          unfold zcv
          by_cases c0 : μ.2.1 99 d = 0
          · rw [if_pos c0, if_pos c0]
          · rw [if_neg c0, if_neg c0]
            by_cases c1 : μ.2.1 99 d = 1
            · rw [if_pos c1, if_pos c1]
            · rw [if_neg c1, if_neg c1]
        generalize hμ2 : zuI μ1 101 (40 * d + k) (zcv (μ.2.1 99 d) v) = μ2 at hM
        have hf2 : zFr μ2 := by rw [← hμ2]; exact fr_uI hf1
        have ha2 : ∀ a j, μ2.2.1 a j = if a = 101 ∧ j = 40 * d + k then zcv (μ.2.1 99 d) v else if a = 64 + 2 * d ∧ j = k then zcv (μ.2.1 99 d) v else μ.2.1 a j := by intro a j; rw [← hμ2, uI_at, ha1]
        refine ⟨_, _, _, hX, hf1, hM, zSx_sh h hf2 ?_ ?_⟩
        · intro a j h1 h2
          rw [ha2]; (repeat (first | rw [if_neg (by omega)] | rw [if_pos (by omega)]))
        · intro d' hd'
          have hs' := hSh d' hd'
          have e1 : μ2.2.1 (63 + 2 * d') 0 = μ.2.1 (63 + 2 * d') 0 := by rw [ha2]; (repeat (first | rw [if_neg (by omega)] | rw [if_pos (by omega)]))
          have e2 : μ2.2.1 99 d' = μ.2.1 99 d' := by rw [ha2]; (repeat (first | rw [if_neg (by omega)] | rw [if_pos (by omega)]))
          have e3 : μ2.2.1 (63 + 2 * d') 1 = μ.2.1 (63 + 2 * d') 1 := by rw [ha2]; (repeat (first | rw [if_neg (by omega)] | rw [if_pos (by omega)]))
          have e4 : μ2.2.1 100 d' = μ.2.1 100 d' := by rw [ha2]; (repeat (first | rw [if_neg (by omega)] | rw [if_pos (by omega)]))
          rw [e1, e2, e3, e4]
          refine ⟨hs'.1, hs'.2.1, hs'.2.2.1, hs'.2.2.2.1, ?_⟩
          intro j hj
          by_cases hdj : d' = d ∧ j = k
          · obtain ⟨rfl, rfl⟩ := hdj
            have e5 : μ2.2.1 (64 + 2 * d') j = zcv (μ.2.1 99 d') v := by rw [ha2]; (repeat (first | rw [if_neg (by omega)] | rw [if_pos (by omega)]))
            have e6 : μ2.2.1 101 (40 * d' + j) = zcv (μ.2.1 99 d') v := by rw [ha2]; (repeat (first | rw [if_neg (by omega)] | rw [if_pos (by omega)]))
            rw [e5, e6]
          · have e5 : μ2.2.1 (64 + 2 * d') j = μ.2.1 (64 + 2 * d') j := by rw [ha2]; (repeat (first | rw [if_neg (by omega)] | rw [if_pos (by omega)]))
            have e6 : μ2.2.1 101 (40 * d' + j) = μ.2.1 101 (40 * d' + j) := by rw [ha2]; (repeat (first | rw [if_neg (by omega)] | rw [if_pos (by omega)]))
            rw [e5, e6]
            exact hs'.2.2.2.2 j hj
      · rw [if_neg hb] at eH
        refine zOk_same (v := -12) h ?_ ?_
        · show F_X_cell μ 0 (nI d) b v = _
          rw [eX0, eH]
          rfl
        · unfold F_M_cell
          rw [M_isSheet, if_pos ed, zb_some, if_neg (show ¬ nI 1 = 0 by decide), gR_73_49 hf, zb_some, aI_99 hf hd, zb_some, if_pos h0, gR_73_50 hf, zb_some, aI_100 hf hd, zb_some, hze, M_inN _ _ (show z < 1000 by omega), if_neg hb]
          rfl
  · refine zOk_same (v := -2) h ?_ ?_
    · unfold F_X_cell
      rw [X_isSheet, if_neg ha]; rfl
    · unfold F_M_cell
      rw [M_isSheet, if_neg ha]; rfl
end S
