-- ===== teach, bar =====
section S
variable {n p yr tx rl tp c : Nat} {μ : zS}
theorem zct_s (P : Nat → Bool) (i : Nat) : zct P (i + 1) = zct P i + if P i then 1 else 0 := rfl
theorem X_had {w : Nat} (hf : zFr μ) (hw : w < 7) : F_Person_lessonsHad μ (18 + 3 * w) = some (nI (zct (fun q => !decide (μ.2.1 (19 + 3 * w) q = (-1))) 6)) := by
  unfold F_Person_lessonsHad
  generalize hP : (fun q => !decide (μ.2.1 (19 + 3 * w) q = (-1))) = P
  refine fix2_t 6 (fun i => nI (zct P i)) (fun i => nI i) ?_ ?_ (zFU_lt (by decide))
  · intro r i hi
    have h1 : ¬ 6 ≤ i := by omega
    have h2 : P i = !decide (μ.2.1 (19 + 3 * w) i = (-1)) := by rw [← hP]
    rw [if_neg (show ¬ (6 : Int32) ≤ nI i by rw [show (6 : Int32) = nI 6 from rfl, nI_leI (by omega) (by omega)]; omega)]
    rw [gR_P_5 hf hw, zb_some, aI_P_5 hf hw hi, zb_some, zct_s, h2, show nI i + 1 = nI (i + 1) from nI_add i 1]
    by_cases h3 : μ.2.1 (19 + 3 * w) i = (-1)
    · rw [if_pos h3]; simp [h3]
    · rw [if_neg h3]; rw [show nI (zct P i) + 1 = nI (zct P i + 1) from nI_add _ 1]; simp [h3]
  · intro r
    rw [if_pos (show (6 : Int32) ≤ nI 6 by decide)]
theorem M_had {w : Nat} (hf : zFr μ) (hw : w < 7) (hn : μ.2.1 73 1 = nI n) (h6 : n ≤ 6) : F_M_taughtMany μ 73 (nI w) = some (nI (zct (fun q => !decide (μ.2.1 82 (6 * w + q) = 0)) n)) := by
  unfold F_M_taughtMany
  generalize hP : (fun q => !decide (μ.2.1 82 (6 * w + q) = 0)) = P
  refine fix2_t n (fun i => nI (zct P i)) (fun i => nI i) ?_ ?_ (zFU_lt (by omega))
  · intro r i hi
    have h2 : P i = !decide (μ.2.1 82 (6 * w + i) = 0) := by rw [← hP]
    rw [gI_73 hf, zb_some, hn, if_neg (show ¬ nI n ≤ nI i by rw [nI_leI (by omega) (by omega)]; omega)]
    rw [gR_73_12 hf, zb_some, show (6 : Int32) = nI 6 from rfl, pk_mul, nI_add, aI_82 hf (by omega), zb_some, zct_s, h2, show nI i + 1 = nI (i + 1) from nI_add i 1]
    by_cases h3 : μ.2.1 82 (6 * w + i) = 0
    · rw [if_pos h3, show nI (zct P i) + 0 = nI (zct P i + 0) from nI_add _ 0]; simp [h3]
    · rw [if_neg h3, show nI (zct P i) + 1 = nI (zct P i + 1) from nI_add _ 1]; simp [h3]
  · intro r
    rw [gI_73 hf, zb_some, hn, if_pos (show nI n ≤ nI n from Int32.le_refl _)]
theorem zhad_eq {w : Nat} {e : Nat → Nat → Int32} (hT : zTa n p e) (hw : w < 7) (h6 : n ≤ 6) : zct (fun q => !decide (e (19 + 3 * w) q = (-1))) 6 = zct (fun q => !decide (e 82 (6 * w + q) = 0)) n := by
  rw [zct_z (m := n) h6]
  · refine zct_cg (fun q hq => ?_)
    rcases (hT w hw q (by omega)).1 with ⟨h1, h2⟩ | ⟨h1, h2, h3, h4⟩
    · rw [h1, h2]; rfl
    · rw [h1, h2, h3.2]
      have := nI_n1 (a := (e 81 (6 * w + q)).toNatClampNeg) (by have := h3.1; omega)
      simp only [this]; rfl
  · intro q h1 h2
    rcases (hT w hw q h2).1 with ⟨h3, h4⟩ | ⟨h3, h4, h5, h6⟩
    · simp [h4]
    · omega
theorem K_teach (h : zSt n p yr tx rl tp c μ) (a b : Int32) : zOk c (fun u => F_X_teach u 0 a b) (fun u => F_M_teach u 73 a b) μ := by
  obtain ⟨hf, hP, hPe, hAs, hTa, hBa, hYr, hTp, hTx, hIm, hSh, hLt⟩ := id h
  have hn6 := hP.1
  have hp7 := hPe.1
  rcases zcase a (n := p) (by omega) with ⟨w, hw, rfl⟩ | ha
  · have hw7 : w < 7 := by omega
    have ep : (nI 0 ≤ nI w ∧ nI w < nI p) := zc_lt hw (by omega)
    rcases zcase b (n := n) (by omega) with ⟨q, hq, rfl⟩ | hb
    · have hq6 : q < 6 := by omega
      have eq : (nI 0 ≤ nI q ∧ nI q < nI n) := zc_lt hq (by omega)
      obtain ⟨hb1, hb2⟩ := hBa w hw7
      obtain ⟨bb, hbb, hbe, hbc⟩ := zRg_ex hb1.1
      obtain ⟨hb3, hb4⟩ := hb1.2 q hq6
      rw [hbc] at hb4
      obtain ⟨k1, k2, k3, k4, k5, -⟩ := hPe.2.2.2 w hw7 hw
      obtain ⟨o, ho, hoe, -⟩ := zRg_ex k4
      have eB := X_isBarred hf hw7 hq6 hbe (by omega)
      by_cases hbar : μ.2.1 83 (6 * w + q) = 1
      · refine zOk_same (v := -3) h ?_ ?_
        · unfold F_X_teach
          rw [hb4, decide_eq_true hbar, if_pos rfl] at eB
          simp (disch := first | omega | assumption | exact Or.inl rfl | exact Or.inr rfl | (repeat (first | assumption | apply fr_uI | apply fr_uJ)) ) only [fo_0, fo_1, fo_6, fo_9, fo_13, fo_71, fo_73, fo_P, fo_T, fo_S, gI_0, gI_1, gI_6, gI_9, gI_13, gI_71, gI_73, gI_P, gI_T, gI_S, gR_0_0, gR_0_1, gR_0_3, gR_0_4, gR_0_7, gR_0_8, gR_0_9, gR_0_10, gR_0_11, gR_1_2, gR_6_1, gR_6_2, gR_9_2, gR_9_3, gR_9_4, gR_13_1, gR_13_2, gR_13_3, gR_71_1, gR_73_2, gR_73_3, gR_73_5, gR_73_6, gR_73_7, gR_73_8, gR_73_9, gR_73_11, gR_73_12, gR_73_13, gR_73_14, gR_73_18, gR_73_19, gR_73_20, gR_73_29, gR_73_30, gR_73_31, gR_73_32, gR_73_33, gR_73_34, gR_73_35, gR_73_45, gR_73_46, gR_73_47, gR_73_48, gR_73_49, gR_73_50, gR_73_51, gR_73_52, gR_P_5, gR_P_8, gR_T_0, gR_T_2, gR_T_3, gR_S_2, pI_0, pI_1, pI_6, pI_9, pI_13, pI_71, pI_73, pI_P, pI_T, pI_S, aR_3, aR_4, aR_17, aI_P_5, aI_P_8, aI_T_0, aI_T_2, aI_T_3, aI_S_2, aI_2, aI_5, aI_7, aI_8, aI_10, aI_11, aI_12, aI_14, aI_15, aI_72, aI_74, aI_75, aI_76, aI_77, aI_78, aI_79, aI_80, aI_81, aI_82, aI_83, aI_84, aI_85, aI_86, aI_87, aI_88, aI_89, aI_90, aI_91, aI_92, aI_93, aI_94, aI_95, aI_96, aI_97, aI_98, aI_99, aI_100, aI_101, aI_102, aI_103, sI_P_5, sI_P_8, sI_T_0, sI_T_2, sI_T_3, sI_S_2, sI_2, sI_5, sI_7, sI_8, sI_10, sI_11, sI_12, sI_14, sI_15, sI_72, sI_75, sI_76, sI_77, sI_78, sI_79, sI_80, sI_81, sI_84, sI_85, sI_86, sI_87, sI_89, sI_90, sI_91, sI_92, sI_93, sI_94, sI_95, sI_98, sI_99, sI_100, sI_101, sI_102, sI_103, aJ_16, sJ_16, zk_some, zb_some, zlet_eq, zjn1_eq, zjn2_eq, zjn3_eq, zjn4_eq, zjn5_eq, zjn6_eq, zjn7_eq, ite_true, ite_false, reduceIte, Nat.reduceEqDiff, and_true, true_and, false_and, and_false, reduceCtorEq, eq_self, X_isPerson hf hPe.2.1, if_pos ep, X_has hf hP.2.1, if_pos eq, eB]
          rfl
        · unfold F_M_teach
          simp (disch := first | omega | assumption | exact Or.inl rfl | exact Or.inr rfl | (repeat (first | assumption | apply fr_uI | apply fr_uJ)) ) only [fo_0, fo_1, fo_6, fo_9, fo_13, fo_71, fo_73, fo_P, fo_T, fo_S, gI_0, gI_1, gI_6, gI_9, gI_13, gI_71, gI_73, gI_P, gI_T, gI_S, gR_0_0, gR_0_1, gR_0_3, gR_0_4, gR_0_7, gR_0_8, gR_0_9, gR_0_10, gR_0_11, gR_1_2, gR_6_1, gR_6_2, gR_9_2, gR_9_3, gR_9_4, gR_13_1, gR_13_2, gR_13_3, gR_71_1, gR_73_2, gR_73_3, gR_73_5, gR_73_6, gR_73_7, gR_73_8, gR_73_9, gR_73_11, gR_73_12, gR_73_13, gR_73_14, gR_73_18, gR_73_19, gR_73_20, gR_73_29, gR_73_30, gR_73_31, gR_73_32, gR_73_33, gR_73_34, gR_73_35, gR_73_45, gR_73_46, gR_73_47, gR_73_48, gR_73_49, gR_73_50, gR_73_51, gR_73_52, gR_P_5, gR_P_8, gR_T_0, gR_T_2, gR_T_3, gR_S_2, pI_0, pI_1, pI_6, pI_9, pI_13, pI_71, pI_73, pI_P, pI_T, pI_S, aR_3, aR_4, aR_17, aI_P_5, aI_P_8, aI_T_0, aI_T_2, aI_T_3, aI_S_2, aI_2, aI_5, aI_7, aI_8, aI_10, aI_11, aI_12, aI_14, aI_15, aI_72, aI_74, aI_75, aI_76, aI_77, aI_78, aI_79, aI_80, aI_81, aI_82, aI_83, aI_84, aI_85, aI_86, aI_87, aI_88, aI_89, aI_90, aI_91, aI_92, aI_93, aI_94, aI_95, aI_96, aI_97, aI_98, aI_99, aI_100, aI_101, aI_102, aI_103, sI_P_5, sI_P_8, sI_T_0, sI_T_2, sI_T_3, sI_S_2, sI_2, sI_5, sI_7, sI_8, sI_10, sI_11, sI_12, sI_14, sI_15, sI_72, sI_75, sI_76, sI_77, sI_78, sI_79, sI_80, sI_81, sI_84, sI_85, sI_86, sI_87, sI_89, sI_90, sI_91, sI_92, sI_93, sI_94, sI_95, sI_98, sI_99, sI_100, sI_101, sI_102, sI_103, aJ_16, sJ_16, zk_some, zb_some, zlet_eq, zjn1_eq, zjn2_eq, zjn3_eq, zjn4_eq, zjn5_eq, zjn6_eq, zjn7_eq, ite_true, ite_false, reduceIte, Nat.reduceEqDiff, and_true, true_and, false_and, and_false, reduceCtorEq, eq_self, M_isPerson hf hPe.2.2.1 hp7, if_pos ep, M_isPost hf hP.2.2.1 hn6, if_pos eq, show (6 : Int32) = nI 6 from rfl, pk_mul, nI_add, hbar]
          rfl
      · have hbar0 : μ.2.1 83 (6 * w + q) = 0 := hb3.resolve_right hbar
        rw [hb4, decide_eq_false hbar, if_neg (by decide)] at eB
        by_cases hoq : o = q
        · refine zOk_same (v := -3) h ?_ ?_
          · unfold F_X_teach
            simp (disch := first | omega | assumption | exact Or.inl rfl | exact Or.inr rfl | (repeat (first | assumption | apply fr_uI | apply fr_uJ)) ) only [fo_0, fo_1, fo_6, fo_9, fo_13, fo_71, fo_73, fo_P, fo_T, fo_S, gI_0, gI_1, gI_6, gI_9, gI_13, gI_71, gI_73, gI_P, gI_T, gI_S, gR_0_0, gR_0_1, gR_0_3, gR_0_4, gR_0_7, gR_0_8, gR_0_9, gR_0_10, gR_0_11, gR_1_2, gR_6_1, gR_6_2, gR_9_2, gR_9_3, gR_9_4, gR_13_1, gR_13_2, gR_13_3, gR_71_1, gR_73_2, gR_73_3, gR_73_5, gR_73_6, gR_73_7, gR_73_8, gR_73_9, gR_73_11, gR_73_12, gR_73_13, gR_73_14, gR_73_18, gR_73_19, gR_73_20, gR_73_29, gR_73_30, gR_73_31, gR_73_32, gR_73_33, gR_73_34, gR_73_35, gR_73_45, gR_73_46, gR_73_47, gR_73_48, gR_73_49, gR_73_50, gR_73_51, gR_73_52, gR_P_5, gR_P_8, gR_T_0, gR_T_2, gR_T_3, gR_S_2, pI_0, pI_1, pI_6, pI_9, pI_13, pI_71, pI_73, pI_P, pI_T, pI_S, aR_3, aR_4, aR_17, aI_P_5, aI_P_8, aI_T_0, aI_T_2, aI_T_3, aI_S_2, aI_2, aI_5, aI_7, aI_8, aI_10, aI_11, aI_12, aI_14, aI_15, aI_72, aI_74, aI_75, aI_76, aI_77, aI_78, aI_79, aI_80, aI_81, aI_82, aI_83, aI_84, aI_85, aI_86, aI_87, aI_88, aI_89, aI_90, aI_91, aI_92, aI_93, aI_94, aI_95, aI_96, aI_97, aI_98, aI_99, aI_100, aI_101, aI_102, aI_103, sI_P_5, sI_P_8, sI_T_0, sI_T_2, sI_T_3, sI_S_2, sI_2, sI_5, sI_7, sI_8, sI_10, sI_11, sI_12, sI_14, sI_15, sI_72, sI_75, sI_76, sI_77, sI_78, sI_79, sI_80, sI_81, sI_84, sI_85, sI_86, sI_87, sI_89, sI_90, sI_91, sI_92, sI_93, sI_94, sI_95, sI_98, sI_99, sI_100, sI_101, sI_102, sI_103, aJ_16, sJ_16, zk_some, zb_some, zlet_eq, zjn1_eq, zjn2_eq, zjn3_eq, zjn4_eq, zjn5_eq, zjn6_eq, zjn7_eq, ite_true, ite_false, reduceIte, Nat.reduceEqDiff, and_true, true_and, false_and, and_false, reduceCtorEq, eq_self, X_isPerson hf hPe.2.1, if_pos ep, X_has hf hP.2.1, if_pos eq, eB, k3, hoe, hoq]
            rfl
          · unfold F_M_teach
            simp (disch := first | omega | assumption | exact Or.inl rfl | exact Or.inr rfl | (repeat (first | assumption | apply fr_uI | apply fr_uJ)) ) only [fo_0, fo_1, fo_6, fo_9, fo_13, fo_71, fo_73, fo_P, fo_T, fo_S, gI_0, gI_1, gI_6, gI_9, gI_13, gI_71, gI_73, gI_P, gI_T, gI_S, gR_0_0, gR_0_1, gR_0_3, gR_0_4, gR_0_7, gR_0_8, gR_0_9, gR_0_10, gR_0_11, gR_1_2, gR_6_1, gR_6_2, gR_9_2, gR_9_3, gR_9_4, gR_13_1, gR_13_2, gR_13_3, gR_71_1, gR_73_2, gR_73_3, gR_73_5, gR_73_6, gR_73_7, gR_73_8, gR_73_9, gR_73_11, gR_73_12, gR_73_13, gR_73_14, gR_73_18, gR_73_19, gR_73_20, gR_73_29, gR_73_30, gR_73_31, gR_73_32, gR_73_33, gR_73_34, gR_73_35, gR_73_45, gR_73_46, gR_73_47, gR_73_48, gR_73_49, gR_73_50, gR_73_51, gR_73_52, gR_P_5, gR_P_8, gR_T_0, gR_T_2, gR_T_3, gR_S_2, pI_0, pI_1, pI_6, pI_9, pI_13, pI_71, pI_73, pI_P, pI_T, pI_S, aR_3, aR_4, aR_17, aI_P_5, aI_P_8, aI_T_0, aI_T_2, aI_T_3, aI_S_2, aI_2, aI_5, aI_7, aI_8, aI_10, aI_11, aI_12, aI_14, aI_15, aI_72, aI_74, aI_75, aI_76, aI_77, aI_78, aI_79, aI_80, aI_81, aI_82, aI_83, aI_84, aI_85, aI_86, aI_87, aI_88, aI_89, aI_90, aI_91, aI_92, aI_93, aI_94, aI_95, aI_96, aI_97, aI_98, aI_99, aI_100, aI_101, aI_102, aI_103, sI_P_5, sI_P_8, sI_T_0, sI_T_2, sI_T_3, sI_S_2, sI_2, sI_5, sI_7, sI_8, sI_10, sI_11, sI_12, sI_14, sI_15, sI_72, sI_75, sI_76, sI_77, sI_78, sI_79, sI_80, sI_81, sI_84, sI_85, sI_86, sI_87, sI_89, sI_90, sI_91, sI_92, sI_93, sI_94, sI_95, sI_98, sI_99, sI_100, sI_101, sI_102, sI_103, aJ_16, sJ_16, zk_some, zb_some, zlet_eq, zjn1_eq, zjn2_eq, zjn3_eq, zjn4_eq, zjn5_eq, zjn6_eq, zjn7_eq, ite_true, ite_false, reduceIte, Nat.reduceEqDiff, and_true, true_and, false_and, and_false, reduceCtorEq, eq_self, M_isPerson hf hPe.2.2.1 hp7, if_pos ep, M_isPost hf hP.2.2.1 hn6, if_pos eq, show (6 : Int32) = nI 6 from rfl, pk_mul, nI_add, hbar0, hoe, hoq]
            rfl
        · have hoq2 : ¬ nI o = nI q := fun z => hoq (nI_inj (by omega) (by omega) z)
          generalize hμ1 : zuI μ (19 + 3 * w) q (nI yr) = μ1
          have hf1 : zFr μ1 := by rw [← hμ1]; exact fr_uI hf
          have ha1 : ∀ a k, μ1.2.1 a k = if a = 19 + 3 * w ∧ k = q then nI yr else μ.2.1 a k := by intro a k; rw [← hμ1, uI_at]
          generalize hμ2 : zuI (zuI μ1 82 (6 * w + q) 1) 81 (6 * w + q) (nI yr) = μ2
          have hf2 : zFr μ2 := by rw [← hμ2]; exact fr_uI (fr_uI hf1)
          have ha2 : ∀ a k, μ2.2.1 a k = if a = 81 ∧ k = 6 * w + q then nI yr else if a = 82 ∧ k = 6 * w + q then 1 else if a = 19 + 3 * w ∧ k = q then nI yr else μ.2.1 a k := by intro a k; rw [← hμ2, uI_at, uI_at, ha1]
          have hoff : ∀ a k, ¬ (a = 81) → ¬ (a = 82) → ¬ (a = 19 + 3 * w) → μ2.2.1 a k = μ.2.1 a k := by
            intro a k h1 h2 h3
            rw [ha2, if_neg (by omega), if_neg (by omega), if_neg (by omega)]
          have hTa2 : zTa n p μ2.2.1 := by
            intro w' hw' q' hq'
            by_cases hww : w' = w ∧ q' = q
            · obtain ⟨rfl, rfl⟩ := hww
              refine ⟨Or.inr ⟨?_, ?_, ?_, hq⟩, fun z => by omega⟩
              · rw [ha2]; simp
              · rw [ha2, ha2, if_neg (by omega), if_neg (by omega)]; simp
              · rw [ha2]; simp; exact zRg_nI hYr.1 (by decide)
            · have := hTa w' hw' q' hq'
              rw [ha2, if_neg (by omega), if_neg (by omega), if_neg (by omega), ha2, if_neg (by omega), if_neg (by omega), if_neg (by omega), ha2, if_neg (by omega), if_neg (by omega), if_neg (by omega)]
              exact this
          have h1 : zct (fun q => !decide (μ1.2.1 (19 + 3 * w) q = (-1))) 6 = zct (fun q => !decide (μ2.2.1 82 (6 * w + q) = 0)) n := by
            rw [← zhad_eq hTa2 hw7 hn6]
            refine zct_cg (fun i hi => ?_)
            rw [ha2, if_neg (by omega), if_neg (by omega), ha1]
          have eX := X_had hf1 hw7
          have eM := M_had hf2 hw7 (n := n) (by rw [hoff _ _ (by omega) (by omega) (by omega)]; exact hP.2.2.1) hn6
          rw [← h1] at eM
          refine ⟨nI (zct (fun q => !decide (μ1.2.1 (19 + 3 * w) q = (-1))) 6), μ1, μ2, ?_, hf1, ?_, n, p, yr, tx, rl, tp, hf2, ?_⟩
          · unfold F_X_teach
            simp (disch := first | omega | assumption | exact Or.inl rfl | exact Or.inr rfl | (repeat (first | assumption | apply fr_uI | apply fr_uJ)) ) only [fo_0, fo_1, fo_6, fo_9, fo_13, fo_71, fo_73, fo_P, fo_T, fo_S, gI_0, gI_1, gI_6, gI_9, gI_13, gI_71, gI_73, gI_P, gI_T, gI_S, gR_0_0, gR_0_1, gR_0_3, gR_0_4, gR_0_7, gR_0_8, gR_0_9, gR_0_10, gR_0_11, gR_1_2, gR_6_1, gR_6_2, gR_9_2, gR_9_3, gR_9_4, gR_13_1, gR_13_2, gR_13_3, gR_71_1, gR_73_2, gR_73_3, gR_73_5, gR_73_6, gR_73_7, gR_73_8, gR_73_9, gR_73_11, gR_73_12, gR_73_13, gR_73_14, gR_73_18, gR_73_19, gR_73_20, gR_73_29, gR_73_30, gR_73_31, gR_73_32, gR_73_33, gR_73_34, gR_73_35, gR_73_45, gR_73_46, gR_73_47, gR_73_48, gR_73_49, gR_73_50, gR_73_51, gR_73_52, gR_P_5, gR_P_8, gR_T_0, gR_T_2, gR_T_3, gR_S_2, pI_0, pI_1, pI_6, pI_9, pI_13, pI_71, pI_73, pI_P, pI_T, pI_S, aR_3, aR_4, aR_17, aI_P_5, aI_P_8, aI_T_0, aI_T_2, aI_T_3, aI_S_2, aI_2, aI_5, aI_7, aI_8, aI_10, aI_11, aI_12, aI_14, aI_15, aI_72, aI_74, aI_75, aI_76, aI_77, aI_78, aI_79, aI_80, aI_81, aI_82, aI_83, aI_84, aI_85, aI_86, aI_87, aI_88, aI_89, aI_90, aI_91, aI_92, aI_93, aI_94, aI_95, aI_96, aI_97, aI_98, aI_99, aI_100, aI_101, aI_102, aI_103, sI_P_5, sI_P_8, sI_T_0, sI_T_2, sI_T_3, sI_S_2, sI_2, sI_5, sI_7, sI_8, sI_10, sI_11, sI_12, sI_14, sI_15, sI_72, sI_75, sI_76, sI_77, sI_78, sI_79, sI_80, sI_81, sI_84, sI_85, sI_86, sI_87, sI_89, sI_90, sI_91, sI_92, sI_93, sI_94, sI_95, sI_98, sI_99, sI_100, sI_101, sI_102, sI_103, aJ_16, sJ_16, zk_some, zb_some, zlet_eq, zjn1_eq, zjn2_eq, zjn3_eq, zjn4_eq, zjn5_eq, zjn6_eq, zjn7_eq, ite_true, ite_false, reduceIte, Nat.reduceEqDiff, and_true, true_and, false_and, and_false, reduceCtorEq, eq_self, X_isPerson hf hPe.2.1, if_pos ep, X_has hf hP.2.1, if_pos eq, eB, k3, hoe, hoq2, hYr.2.1, hμ1, eX, show ¬ nI 1 = 0 by decide, show (nI 0 = (0 : Int32)) = True from by simp only [eq_iff_iff, iff_true]; rfl]
          · unfold F_M_teach
            have g1 : μ1.2.1 73 4 = nI p := by rw [ha1, if_neg (by omega)]; exact hPe.2.2.1
            have g2 : μ1.2.1 73 1 = nI n := by rw [ha1, if_neg (by omega)]; exact hP.2.2.1
            have g3 : μ1.2.1 83 (6 * w + q) = 0 := by rw [ha1, if_neg (by omega)]; exact hbar0
            have g4 : μ1.2.1 77 w = nI o := by rw [ha1, if_neg (by omega)]; exact hoe
            have g5 : μ1.2.1 73 10 = nI yr := by rw [ha1, if_neg (by omega)]; exact hYr.2.2
            simp (disch := first | omega | assumption | exact Or.inl rfl | exact Or.inr rfl | (repeat (first | assumption | apply fr_uI | apply fr_uJ)) ) only [fo_0, fo_1, fo_6, fo_9, fo_13, fo_71, fo_73, fo_P, fo_T, fo_S, gI_0, gI_1, gI_6, gI_9, gI_13, gI_71, gI_73, gI_P, gI_T, gI_S, gR_0_0, gR_0_1, gR_0_3, gR_0_4, gR_0_7, gR_0_8, gR_0_9, gR_0_10, gR_0_11, gR_1_2, gR_6_1, gR_6_2, gR_9_2, gR_9_3, gR_9_4, gR_13_1, gR_13_2, gR_13_3, gR_71_1, gR_73_2, gR_73_3, gR_73_5, gR_73_6, gR_73_7, gR_73_8, gR_73_9, gR_73_11, gR_73_12, gR_73_13, gR_73_14, gR_73_18, gR_73_19, gR_73_20, gR_73_29, gR_73_30, gR_73_31, gR_73_32, gR_73_33, gR_73_34, gR_73_35, gR_73_45, gR_73_46, gR_73_47, gR_73_48, gR_73_49, gR_73_50, gR_73_51, gR_73_52, gR_P_5, gR_P_8, gR_T_0, gR_T_2, gR_T_3, gR_S_2, pI_0, pI_1, pI_6, pI_9, pI_13, pI_71, pI_73, pI_P, pI_T, pI_S, aR_3, aR_4, aR_17, aI_P_5, aI_P_8, aI_T_0, aI_T_2, aI_T_3, aI_S_2, aI_2, aI_5, aI_7, aI_8, aI_10, aI_11, aI_12, aI_14, aI_15, aI_72, aI_74, aI_75, aI_76, aI_77, aI_78, aI_79, aI_80, aI_81, aI_82, aI_83, aI_84, aI_85, aI_86, aI_87, aI_88, aI_89, aI_90, aI_91, aI_92, aI_93, aI_94, aI_95, aI_96, aI_97, aI_98, aI_99, aI_100, aI_101, aI_102, aI_103, sI_P_5, sI_P_8, sI_T_0, sI_T_2, sI_T_3, sI_S_2, sI_2, sI_5, sI_7, sI_8, sI_10, sI_11, sI_12, sI_14, sI_15, sI_72, sI_75, sI_76, sI_77, sI_78, sI_79, sI_80, sI_81, sI_84, sI_85, sI_86, sI_87, sI_89, sI_90, sI_91, sI_92, sI_93, sI_94, sI_95, sI_98, sI_99, sI_100, sI_101, sI_102, sI_103, aJ_16, sJ_16, zk_some, zb_some, zlet_eq, zjn1_eq, zjn2_eq, zjn3_eq, zjn4_eq, zjn5_eq, zjn6_eq, zjn7_eq, ite_true, ite_false, reduceIte, Nat.reduceEqDiff, and_true, true_and, false_and, and_false, reduceCtorEq, eq_self, pZ_0, pZ_1, pZ_6, pZ_9, pZ_13, pZ_71, pZ_73, sZ_74, sZ_82, sZ_83, sZ_96, sZ_97, uI_at, M_isPerson hf1 g1 hp7, if_pos ep, M_isPost hf1 g2 hn6, if_pos eq, show (6 : Int32) = nI 6 from rfl, pk_mul, nI_add, g3, g4, hoq2, g5, hμ2, eM, show ¬ nI 1 = 0 by decide]
          · refine ⟨zP_c hP ?_, zPe_c hPe ?_, zAs_m (zAs_c hAs ?_) (Nat.le_succ c) (Nat.le_refl p), hTa2, zBa_c hBa ?_, zYr_c hYr ?_, zTp_c hTp ?_, zTx_c hTx ?_, zIm_m (zIm_c hIm ?_) (Nat.le_refl n) (Nat.le_refl p) (Nat.le_refl tx) (Nat.le_succ c), zSh_c hSh ?_, zLt_c hLt ?_⟩
            all_goals (intro a k hak; exact hoff a k (by omega) (by omega) (by omega))
    · refine zOk_same (v := -2) h ?_ ?_
      · unfold F_X_teach
        simp (disch := first | omega | assumption | exact Or.inl rfl | exact Or.inr rfl | (repeat (first | assumption | apply fr_uI | apply fr_uJ)) ) only [fo_0, fo_1, fo_6, fo_9, fo_13, fo_71, fo_73, fo_P, fo_T, fo_S, gI_0, gI_1, gI_6, gI_9, gI_13, gI_71, gI_73, gI_P, gI_T, gI_S, gR_0_0, gR_0_1, gR_0_3, gR_0_4, gR_0_7, gR_0_8, gR_0_9, gR_0_10, gR_0_11, gR_1_2, gR_6_1, gR_6_2, gR_9_2, gR_9_3, gR_9_4, gR_13_1, gR_13_2, gR_13_3, gR_71_1, gR_73_2, gR_73_3, gR_73_5, gR_73_6, gR_73_7, gR_73_8, gR_73_9, gR_73_11, gR_73_12, gR_73_13, gR_73_14, gR_73_18, gR_73_19, gR_73_20, gR_73_29, gR_73_30, gR_73_31, gR_73_32, gR_73_33, gR_73_34, gR_73_35, gR_73_45, gR_73_46, gR_73_47, gR_73_48, gR_73_49, gR_73_50, gR_73_51, gR_73_52, gR_P_5, gR_P_8, gR_T_0, gR_T_2, gR_T_3, gR_S_2, pI_0, pI_1, pI_6, pI_9, pI_13, pI_71, pI_73, pI_P, pI_T, pI_S, aR_3, aR_4, aR_17, aI_P_5, aI_P_8, aI_T_0, aI_T_2, aI_T_3, aI_S_2, aI_2, aI_5, aI_7, aI_8, aI_10, aI_11, aI_12, aI_14, aI_15, aI_72, aI_74, aI_75, aI_76, aI_77, aI_78, aI_79, aI_80, aI_81, aI_82, aI_83, aI_84, aI_85, aI_86, aI_87, aI_88, aI_89, aI_90, aI_91, aI_92, aI_93, aI_94, aI_95, aI_96, aI_97, aI_98, aI_99, aI_100, aI_101, aI_102, aI_103, sI_P_5, sI_P_8, sI_T_0, sI_T_2, sI_T_3, sI_S_2, sI_2, sI_5, sI_7, sI_8, sI_10, sI_11, sI_12, sI_14, sI_15, sI_72, sI_75, sI_76, sI_77, sI_78, sI_79, sI_80, sI_81, sI_84, sI_85, sI_86, sI_87, sI_89, sI_90, sI_91, sI_92, sI_93, sI_94, sI_95, sI_98, sI_99, sI_100, sI_101, sI_102, sI_103, aJ_16, sJ_16, zk_some, zb_some, zlet_eq, zjn1_eq, zjn2_eq, zjn3_eq, zjn4_eq, zjn5_eq, zjn6_eq, zjn7_eq, ite_true, ite_false, reduceIte, Nat.reduceEqDiff, and_true, true_and, false_and, and_false, reduceCtorEq, eq_self, X_isPerson hf hPe.2.1, if_pos ep, X_has hf hP.2.1, if_neg hb]
        rfl
      · unfold F_M_teach
        simp (disch := first | omega | assumption | exact Or.inl rfl | exact Or.inr rfl | (repeat (first | assumption | apply fr_uI | apply fr_uJ)) ) only [fo_0, fo_1, fo_6, fo_9, fo_13, fo_71, fo_73, fo_P, fo_T, fo_S, gI_0, gI_1, gI_6, gI_9, gI_13, gI_71, gI_73, gI_P, gI_T, gI_S, gR_0_0, gR_0_1, gR_0_3, gR_0_4, gR_0_7, gR_0_8, gR_0_9, gR_0_10, gR_0_11, gR_1_2, gR_6_1, gR_6_2, gR_9_2, gR_9_3, gR_9_4, gR_13_1, gR_13_2, gR_13_3, gR_71_1, gR_73_2, gR_73_3, gR_73_5, gR_73_6, gR_73_7, gR_73_8, gR_73_9, gR_73_11, gR_73_12, gR_73_13, gR_73_14, gR_73_18, gR_73_19, gR_73_20, gR_73_29, gR_73_30, gR_73_31, gR_73_32, gR_73_33, gR_73_34, gR_73_35, gR_73_45, gR_73_46, gR_73_47, gR_73_48, gR_73_49, gR_73_50, gR_73_51, gR_73_52, gR_P_5, gR_P_8, gR_T_0, gR_T_2, gR_T_3, gR_S_2, pI_0, pI_1, pI_6, pI_9, pI_13, pI_71, pI_73, pI_P, pI_T, pI_S, aR_3, aR_4, aR_17, aI_P_5, aI_P_8, aI_T_0, aI_T_2, aI_T_3, aI_S_2, aI_2, aI_5, aI_7, aI_8, aI_10, aI_11, aI_12, aI_14, aI_15, aI_72, aI_74, aI_75, aI_76, aI_77, aI_78, aI_79, aI_80, aI_81, aI_82, aI_83, aI_84, aI_85, aI_86, aI_87, aI_88, aI_89, aI_90, aI_91, aI_92, aI_93, aI_94, aI_95, aI_96, aI_97, aI_98, aI_99, aI_100, aI_101, aI_102, aI_103, sI_P_5, sI_P_8, sI_T_0, sI_T_2, sI_T_3, sI_S_2, sI_2, sI_5, sI_7, sI_8, sI_10, sI_11, sI_12, sI_14, sI_15, sI_72, sI_75, sI_76, sI_77, sI_78, sI_79, sI_80, sI_81, sI_84, sI_85, sI_86, sI_87, sI_89, sI_90, sI_91, sI_92, sI_93, sI_94, sI_95, sI_98, sI_99, sI_100, sI_101, sI_102, sI_103, aJ_16, sJ_16, zk_some, zb_some, zlet_eq, zjn1_eq, zjn2_eq, zjn3_eq, zjn4_eq, zjn5_eq, zjn6_eq, zjn7_eq, ite_true, ite_false, reduceIte, Nat.reduceEqDiff, and_true, true_and, false_and, and_false, reduceCtorEq, eq_self, M_isPerson hf hPe.2.2.1 hp7, if_pos ep, M_isPost hf hP.2.2.1 hn6, if_neg hb]
        rfl
  · refine zOk_same (v := -2) h ?_ ?_
    · unfold F_X_teach
      simp (disch := first | omega | assumption | exact Or.inl rfl | exact Or.inr rfl | (repeat (first | assumption | apply fr_uI | apply fr_uJ)) ) only [fo_0, fo_1, fo_6, fo_9, fo_13, fo_71, fo_73, fo_P, fo_T, fo_S, gI_0, gI_1, gI_6, gI_9, gI_13, gI_71, gI_73, gI_P, gI_T, gI_S, gR_0_0, gR_0_1, gR_0_3, gR_0_4, gR_0_7, gR_0_8, gR_0_9, gR_0_10, gR_0_11, gR_1_2, gR_6_1, gR_6_2, gR_9_2, gR_9_3, gR_9_4, gR_13_1, gR_13_2, gR_13_3, gR_71_1, gR_73_2, gR_73_3, gR_73_5, gR_73_6, gR_73_7, gR_73_8, gR_73_9, gR_73_11, gR_73_12, gR_73_13, gR_73_14, gR_73_18, gR_73_19, gR_73_20, gR_73_29, gR_73_30, gR_73_31, gR_73_32, gR_73_33, gR_73_34, gR_73_35, gR_73_45, gR_73_46, gR_73_47, gR_73_48, gR_73_49, gR_73_50, gR_73_51, gR_73_52, gR_P_5, gR_P_8, gR_T_0, gR_T_2, gR_T_3, gR_S_2, pI_0, pI_1, pI_6, pI_9, pI_13, pI_71, pI_73, pI_P, pI_T, pI_S, aR_3, aR_4, aR_17, aI_P_5, aI_P_8, aI_T_0, aI_T_2, aI_T_3, aI_S_2, aI_2, aI_5, aI_7, aI_8, aI_10, aI_11, aI_12, aI_14, aI_15, aI_72, aI_74, aI_75, aI_76, aI_77, aI_78, aI_79, aI_80, aI_81, aI_82, aI_83, aI_84, aI_85, aI_86, aI_87, aI_88, aI_89, aI_90, aI_91, aI_92, aI_93, aI_94, aI_95, aI_96, aI_97, aI_98, aI_99, aI_100, aI_101, aI_102, aI_103, sI_P_5, sI_P_8, sI_T_0, sI_T_2, sI_T_3, sI_S_2, sI_2, sI_5, sI_7, sI_8, sI_10, sI_11, sI_12, sI_14, sI_15, sI_72, sI_75, sI_76, sI_77, sI_78, sI_79, sI_80, sI_81, sI_84, sI_85, sI_86, sI_87, sI_89, sI_90, sI_91, sI_92, sI_93, sI_94, sI_95, sI_98, sI_99, sI_100, sI_101, sI_102, sI_103, aJ_16, sJ_16, zk_some, zb_some, zlet_eq, zjn1_eq, zjn2_eq, zjn3_eq, zjn4_eq, zjn5_eq, zjn6_eq, zjn7_eq, ite_true, ite_false, reduceIte, Nat.reduceEqDiff, and_true, true_and, false_and, and_false, reduceCtorEq, eq_self, X_isPerson hf hPe.2.1, if_neg ha]
      rfl
    · unfold F_M_teach
      simp (disch := first | omega | assumption | exact Or.inl rfl | exact Or.inr rfl | (repeat (first | assumption | apply fr_uI | apply fr_uJ)) ) only [fo_0, fo_1, fo_6, fo_9, fo_13, fo_71, fo_73, fo_P, fo_T, fo_S, gI_0, gI_1, gI_6, gI_9, gI_13, gI_71, gI_73, gI_P, gI_T, gI_S, gR_0_0, gR_0_1, gR_0_3, gR_0_4, gR_0_7, gR_0_8, gR_0_9, gR_0_10, gR_0_11, gR_1_2, gR_6_1, gR_6_2, gR_9_2, gR_9_3, gR_9_4, gR_13_1, gR_13_2, gR_13_3, gR_71_1, gR_73_2, gR_73_3, gR_73_5, gR_73_6, gR_73_7, gR_73_8, gR_73_9, gR_73_11, gR_73_12, gR_73_13, gR_73_14, gR_73_18, gR_73_19, gR_73_20, gR_73_29, gR_73_30, gR_73_31, gR_73_32, gR_73_33, gR_73_34, gR_73_35, gR_73_45, gR_73_46, gR_73_47, gR_73_48, gR_73_49, gR_73_50, gR_73_51, gR_73_52, gR_P_5, gR_P_8, gR_T_0, gR_T_2, gR_T_3, gR_S_2, pI_0, pI_1, pI_6, pI_9, pI_13, pI_71, pI_73, pI_P, pI_T, pI_S, aR_3, aR_4, aR_17, aI_P_5, aI_P_8, aI_T_0, aI_T_2, aI_T_3, aI_S_2, aI_2, aI_5, aI_7, aI_8, aI_10, aI_11, aI_12, aI_14, aI_15, aI_72, aI_74, aI_75, aI_76, aI_77, aI_78, aI_79, aI_80, aI_81, aI_82, aI_83, aI_84, aI_85, aI_86, aI_87, aI_88, aI_89, aI_90, aI_91, aI_92, aI_93, aI_94, aI_95, aI_96, aI_97, aI_98, aI_99, aI_100, aI_101, aI_102, aI_103, sI_P_5, sI_P_8, sI_T_0, sI_T_2, sI_T_3, sI_S_2, sI_2, sI_5, sI_7, sI_8, sI_10, sI_11, sI_12, sI_14, sI_15, sI_72, sI_75, sI_76, sI_77, sI_78, sI_79, sI_80, sI_81, sI_84, sI_85, sI_86, sI_87, sI_89, sI_90, sI_91, sI_92, sI_93, sI_94, sI_95, sI_98, sI_99, sI_100, sI_101, sI_102, sI_103, aJ_16, sJ_16, zk_some, zb_some, zlet_eq, zjn1_eq, zjn2_eq, zjn3_eq, zjn4_eq, zjn5_eq, zjn6_eq, zjn7_eq, ite_true, ite_false, reduceIte, Nat.reduceEqDiff, and_true, true_and, false_and, and_false, reduceCtorEq, eq_self, M_isPerson hf hPe.2.2.1 hp7, if_neg ha]
      rfl
theorem tb_ldiff (b q : Nat) (hq : q < 6) (i : Nat) : (b &&& (63 - 2 ^ q)).testBit i = (b.testBit i && (decide (i < 6) && !decide (i = q))) := by
  rw [Nat.testBit_and]
  congr 1
  by_cases hi : i < 6
  · have : ∀ q : Fin 6, ∀ i : Fin 6, (63 - 2 ^ q.1).testBit i.1 = (decide (i.1 < 6) && !decide (i.1 = q.1)) := by decide
    exact this ⟨q, hq⟩ ⟨i, hi⟩
  · rw [Nat.testBit_lt_two_pow]
    · simp [hi]
    · have : 2 ^ 6 ≤ 2 ^ i := Nat.pow_le_pow_right (by decide) (by omega)
      refine Nat.lt_of_lt_of_le ?_ this
      exact Nat.lt_of_le_of_lt (Nat.sub_le _ _) (by decide)
theorem n_clr {b q : Nat} (hb : b ≤ 63) (hq : q < 6) : nI b &&& (((1 : Int32) <<< (nI q &&& 31)) ^^^ (-1)) = nI (b &&& (63 - 2 ^ q)) := by
  have : ∀ b : Fin 64, ∀ q : Fin 6, nI b.1 &&& (((1 : Int32) <<< (nI q.1 &&& 31)) ^^^ (-1)) = nI (b.1 &&& (63 - 2 ^ q.1)) := by decide +kernel
  exact this ⟨b, by omega⟩ ⟨q, hq⟩
theorem n_set {b q : Nat} (hb : b ≤ 63) (hq : q < 6) : nI b ||| ((1 : Int32) <<< (nI q &&& 31)) = nI (b ||| 2 ^ q) := by
  have : ∀ b : Fin 64, ∀ q : Fin 6, nI b.1 ||| (((1 : Int32) <<< (nI q.1 &&& 31))) = nI (b.1 ||| 2 ^ q.1) := by decide +kernel
  exact this ⟨b, by omega⟩ ⟨q, hq⟩
/-- the bars, with one set as it is told -/
def zsb (b q x : Nat) : Nat := if x = 1 then b ||| 2 ^ q else b &&& (63 - 2 ^ q)
theorem zsb_le {b q x : Nat} (hb : b ≤ 63) (hq : q < 6) : zsb b q x ≤ 63 := by
  unfold zsb
  split
  · exact or_lt hb hq
  · exact Nat.le_trans Nat.and_le_left hb
theorem zsb_tb {b q x i : Nat} (hi : i < 6) (hq : q < 6) : (zsb b q x).testBit i = if i = q then decide (x = 1) else b.testBit i := by
  unfold zsb
  by_cases hx : x = 1
  · rw [if_pos hx, tb_or]
    by_cases h : i = q <;> simp [h, hx]
  · rw [if_neg hx, tb_ldiff b q hq]
    by_cases h : i = q <;> simp [h, hx, hi]
theorem zBb_i {bx : Int32} {b : Nat → Int32} (h1 : zRg bx 63) (h2 : ∀ q, q < 6 → ∀ z, b q = z → (z = 0 ∨ z = 1) ∧ bx.toNatClampNeg.testBit q = decide (z = 1)) : zBb bx b := ⟨h1, fun q hq => h2 q hq _ rfl⟩
theorem K_bar (h : zSt n p yr tx rl tp c μ) (a b x : Int32) : zOk c (fun u => F_X_bar u 0 a b x) (fun u => F_M_bar u 73 a b x) μ := by
  obtain ⟨hf, hP, hPe, hAs, hTa, hBa, hYr, hTp, hTx, hIm, hSh, hLt⟩ := id h
  have hn6 := hP.1
  have hp7 := hPe.1
  rcases zcase a (n := p) (by omega) with ⟨w, hw, rfl⟩ | ha
  · have hw7 : w < 7 := by omega
    have ep : (nI 0 ≤ nI w ∧ nI w < nI p) := zc_lt hw (by omega)
    rcases zcase b (n := n) (by omega) with ⟨q, hq, rfl⟩ | hb
    · have hq6 : q < 6 := by omega
      have eq : (nI 0 ≤ nI q ∧ nI q < nI n) := zc_lt hq (by omega)
      rcases zcase x (n := 2) (by omega) with ⟨y, hy, rfl⟩ | hx
      · obtain ⟨hb1, hb2⟩ := hBa w hw7
        obtain ⟨bb, hbb, hbe, hbc⟩ := zRg_ex hb1.1
        obtain ⟨hb3, hb4⟩ := hb1.2 q hq6
        rw [hbc] at hb4
        have eB := X_isBarred hf hw7 hq6 hbe (by omega)
        have eF : F_X_isFlag μ (nI y) = some 1 := by
          rcases (show y = 0 ∨ y = 1 by omega) with rfl | rfl <;> rfl
        generalize hμ1 : zuI μ (18 + 3 * w) 6 (nI (zsb bb q y)) = μ1
        have hf1 : zFr μ1 := by rw [← hμ1]; exact fr_uI hf
        have ha1 : ∀ a k, μ1.2.1 a k = if a = 18 + 3 * w ∧ k = 6 then nI (zsb bb q y) else μ.2.1 a k := by intro a k; rw [← hμ1, uI_at]
        generalize hμ2 : zuI μ1 83 (6 * w + q) (nI y) = μ2
        have hf2 : zFr μ2 := by rw [← hμ2]; exact fr_uI hf1
        have ha2 : ∀ a k, μ2.2.1 a k = if a = 83 ∧ k = 6 * w + q then nI y else if a = 18 + 3 * w ∧ k = 6 then nI (zsb bb q y) else μ.2.1 a k := by intro a k; rw [← hμ2, uI_at, ha1]
        have hoff : ∀ a k, ¬ (a = 83) → ¬ (a = 18 + 3 * w ∧ k = 6) → μ2.2.1 a k = μ.2.1 a k := by
          intro a k h1 h2
          rw [ha2, if_neg (by omega), if_neg (by omega)]
        have hy2 : decide (nI y = 1) = decide (y = 1) := by rcases (show y = 0 ∨ y = 1 by omega) with rfl | rfl <;> rfl
        have hBa2 : zBa p μ2.2.1 := by
          intro w' hw'
          by_cases hww : w' = w
          · subst hww
            refine ⟨zBb_i ?_ ?_, fun z => by omega⟩
            · rw [ha2, if_neg (by omega), if_pos (by omega)]
              exact zRg_nI (zsb_le (by omega) hq6) (by decide)
            · intro i hi z hz
              rw [ha2 (18 + 3 * w') 6, if_neg (by omega), if_pos (by omega), nI_clamp (by have := zsb_le (b := bb) (q := q) (x := y) (by omega) hq6; omega), zsb_tb hi hq6]
              change μ2.2.1 83 (6 * w' + i) = z at hz
              by_cases hiq : i = q
              · rw [ha2, if_pos (by omega)] at hz
                rw [if_pos hiq, ← hz, hy2]
                refine ⟨?_, rfl⟩
                rcases (show y = 0 ∨ y = 1 by omega) with rfl | rfl
                · exact Or.inl rfl
                · exact Or.inr rfl
              · have := hb1.2 i hi
                rw [hbc] at this
                rw [ha2, if_neg (by omega), if_neg (by omega)] at hz
                rw [if_neg hiq, ← hz]
                exact this
          · have := hBa w' hw'
            refine ⟨zBb_i ?_ ?_, ?_⟩
            · rw [hoff _ _ (by omega) (by omega)]; exact this.1.1
            · intro i hi z hz
              change μ2.2.1 83 (6 * w' + i) = z at hz
              rw [ha2, if_neg (by omega), if_neg (by omega)] at hz
              rw [hoff _ _ (by omega) (by omega), ← hz]; exact this.1.2 i hi
            · rw [hoff _ _ (by omega) (by omega)]; exact this.2
        refine ⟨if bb.testBit q then nI 1 else nI 0, μ1, μ2, ?_, hf1, ?_, n, p, yr, tx, rl, tp, hf2, ?_⟩
        · unfold F_X_bar F_Person_setBar
          simp (disch := first | omega | assumption | exact Or.inl rfl | exact Or.inr rfl | (repeat (first | assumption | apply fr_uI | apply fr_uJ)) ) only [fo_0, fo_1, fo_6, fo_9, fo_13, fo_71, fo_73, fo_P, fo_T, fo_S, gI_0, gI_1, gI_6, gI_9, gI_13, gI_71, gI_73, gI_P, gI_T, gI_S, gR_0_0, gR_0_1, gR_0_3, gR_0_4, gR_0_7, gR_0_8, gR_0_9, gR_0_10, gR_0_11, gR_1_2, gR_6_1, gR_6_2, gR_9_2, gR_9_3, gR_9_4, gR_13_1, gR_13_2, gR_13_3, gR_71_1, gR_73_2, gR_73_3, gR_73_5, gR_73_6, gR_73_7, gR_73_8, gR_73_9, gR_73_11, gR_73_12, gR_73_13, gR_73_14, gR_73_18, gR_73_19, gR_73_20, gR_73_29, gR_73_30, gR_73_31, gR_73_32, gR_73_33, gR_73_34, gR_73_35, gR_73_45, gR_73_46, gR_73_47, gR_73_48, gR_73_49, gR_73_50, gR_73_51, gR_73_52, gR_P_5, gR_P_8, gR_T_0, gR_T_2, gR_T_3, gR_S_2, pI_0, pI_1, pI_6, pI_9, pI_13, pI_71, pI_73, pI_P, pI_T, pI_S, aR_3, aR_4, aR_17, aI_P_5, aI_P_8, aI_T_0, aI_T_2, aI_T_3, aI_S_2, aI_2, aI_5, aI_7, aI_8, aI_10, aI_11, aI_12, aI_14, aI_15, aI_72, aI_74, aI_75, aI_76, aI_77, aI_78, aI_79, aI_80, aI_81, aI_82, aI_83, aI_84, aI_85, aI_86, aI_87, aI_88, aI_89, aI_90, aI_91, aI_92, aI_93, aI_94, aI_95, aI_96, aI_97, aI_98, aI_99, aI_100, aI_101, aI_102, aI_103, sI_P_5, sI_P_8, sI_T_0, sI_T_2, sI_T_3, sI_S_2, sI_2, sI_5, sI_7, sI_8, sI_10, sI_11, sI_12, sI_14, sI_15, sI_72, sI_75, sI_76, sI_77, sI_78, sI_79, sI_80, sI_81, sI_84, sI_85, sI_86, sI_87, sI_89, sI_90, sI_91, sI_92, sI_93, sI_94, sI_95, sI_98, sI_99, sI_100, sI_101, sI_102, sI_103, aJ_16, sJ_16, zk_some, zb_some, zlet_eq, zjn1_eq, zjn2_eq, zjn3_eq, zjn4_eq, zjn5_eq, zjn6_eq, zjn7_eq, ite_true, ite_false, reduceIte, Nat.reduceEqDiff, and_true, true_and, false_and, and_false, reduceCtorEq, eq_self, X_isPerson hf hPe.2.1, if_pos ep, X_has hf hP.2.1, if_pos eq, eB, eF, hbe, n_clr, n_set]
          rcases (show y = 0 ∨ y = 1 by omega) with rfl | rfl <;> cases bb.testBit q <;> simp [zsb] at hμ1 <;> subst hμ1 <;> rfl
        · unfold F_M_bar
          have g1 : μ1.2.1 73 4 = nI p := by rw [ha1, if_neg (by omega)]; exact hPe.2.2.1
          have g2 : μ1.2.1 73 1 = nI n := by rw [ha1, if_neg (by omega)]; exact hP.2.2.1
          have g3 : μ1.2.1 83 (6 * w + q) = μ.2.1 83 (6 * w + q) := by rw [ha1, if_neg (by omega)]
          rw [show (1 : Int64) = (nI 1).toInt64 from rfl]
          simp (disch := first | omega | assumption | exact Or.inl rfl | exact Or.inr rfl | (repeat (first | assumption | apply fr_uI | apply fr_uJ)) ) only [fo_0, fo_1, fo_6, fo_9, fo_13, fo_71, fo_73, fo_P, fo_T, fo_S, gI_0, gI_1, gI_6, gI_9, gI_13, gI_71, gI_73, gI_P, gI_T, gI_S, gR_0_0, gR_0_1, gR_0_3, gR_0_4, gR_0_7, gR_0_8, gR_0_9, gR_0_10, gR_0_11, gR_1_2, gR_6_1, gR_6_2, gR_9_2, gR_9_3, gR_9_4, gR_13_1, gR_13_2, gR_13_3, gR_71_1, gR_73_2, gR_73_3, gR_73_5, gR_73_6, gR_73_7, gR_73_8, gR_73_9, gR_73_11, gR_73_12, gR_73_13, gR_73_14, gR_73_18, gR_73_19, gR_73_20, gR_73_29, gR_73_30, gR_73_31, gR_73_32, gR_73_33, gR_73_34, gR_73_35, gR_73_45, gR_73_46, gR_73_47, gR_73_48, gR_73_49, gR_73_50, gR_73_51, gR_73_52, gR_P_5, gR_P_8, gR_T_0, gR_T_2, gR_T_3, gR_S_2, pI_0, pI_1, pI_6, pI_9, pI_13, pI_71, pI_73, pI_P, pI_T, pI_S, aR_3, aR_4, aR_17, aI_P_5, aI_P_8, aI_T_0, aI_T_2, aI_T_3, aI_S_2, aI_2, aI_5, aI_7, aI_8, aI_10, aI_11, aI_12, aI_14, aI_15, aI_72, aI_74, aI_75, aI_76, aI_77, aI_78, aI_79, aI_80, aI_81, aI_82, aI_83, aI_84, aI_85, aI_86, aI_87, aI_88, aI_89, aI_90, aI_91, aI_92, aI_93, aI_94, aI_95, aI_96, aI_97, aI_98, aI_99, aI_100, aI_101, aI_102, aI_103, sI_P_5, sI_P_8, sI_T_0, sI_T_2, sI_T_3, sI_S_2, sI_2, sI_5, sI_7, sI_8, sI_10, sI_11, sI_12, sI_14, sI_15, sI_72, sI_75, sI_76, sI_77, sI_78, sI_79, sI_80, sI_81, sI_84, sI_85, sI_86, sI_87, sI_89, sI_90, sI_91, sI_92, sI_93, sI_94, sI_95, sI_98, sI_99, sI_100, sI_101, sI_102, sI_103, aJ_16, sJ_16, zk_some, zb_some, zlet_eq, zjn1_eq, zjn2_eq, zjn3_eq, zjn4_eq, zjn5_eq, zjn6_eq, zjn7_eq, ite_true, ite_false, reduceIte, Nat.reduceEqDiff, and_true, true_and, false_and, and_false, reduceCtorEq, eq_self, pZ_0, pZ_1, pZ_6, pZ_9, pZ_13, pZ_71, pZ_73, sZ_74, sZ_82, sZ_83, sZ_96, sZ_97, uI_at, M_isPerson hf1 g1 hp7, if_pos ep, M_isPost hf1 g2 hn6, if_pos eq, M_inL μ1 (nI y) 1 (by decide) rfl, if_pos (zc_lt hy (by omega)), show (6 : Int32) = nI 6 from rfl, pk_mul, nI_add, g3]
          have hb5 : bb.testBit q = decide (μ.2.1 83 (6 * w + q) = 1) := hb4
          replace hb3 : μ.2.1 83 (6 * w + q) = 0 ∨ μ.2.1 83 (6 * w + q) = 1 := hb3
          generalize bb.testBit q = B at hb5 ⊢
          generalize μ.2.1 83 (6 * w + q) = z at hb5 hb3 ⊢
          rcases hb3 with rfl | rfl <;> subst hb5 <;> rcases (show y = 0 ∨ y = 1 by omega) with rfl | rfl <;> subst hμ2 <;> rfl
        · refine ⟨zP_c hP ?_, zPe_c hPe ?_, zAs_m (zAs_c hAs ?_) (Nat.le_succ c) (Nat.le_refl p), zTa_c hTa ?_, hBa2, zYr_c hYr ?_, zTp_c hTp ?_, zTx_c hTx ?_, zIm_m (zIm_c hIm ?_) (Nat.le_refl n) (Nat.le_refl p) (Nat.le_refl tx) (Nat.le_succ c), zSh_c hSh ?_, zLt_c hLt ?_⟩
          all_goals (intro a k hak; exact hoff a k (by omega) (by omega))
      · refine zOk_same (v := -2) h ?_ ?_
        · unfold F_X_bar F_X_isFlag
          have e0 : ¬ x = 0 := fun z => hx (by rw [z]; decide)
          have e1 : ¬ x = 1 := fun z => hx (by rw [z]; decide)
          simp (disch := first | omega | assumption | exact Or.inl rfl | exact Or.inr rfl | (repeat (first | assumption | apply fr_uI | apply fr_uJ)) ) only [fo_0, fo_1, fo_6, fo_9, fo_13, fo_71, fo_73, fo_P, fo_T, fo_S, gI_0, gI_1, gI_6, gI_9, gI_13, gI_71, gI_73, gI_P, gI_T, gI_S, gR_0_0, gR_0_1, gR_0_3, gR_0_4, gR_0_7, gR_0_8, gR_0_9, gR_0_10, gR_0_11, gR_1_2, gR_6_1, gR_6_2, gR_9_2, gR_9_3, gR_9_4, gR_13_1, gR_13_2, gR_13_3, gR_71_1, gR_73_2, gR_73_3, gR_73_5, gR_73_6, gR_73_7, gR_73_8, gR_73_9, gR_73_11, gR_73_12, gR_73_13, gR_73_14, gR_73_18, gR_73_19, gR_73_20, gR_73_29, gR_73_30, gR_73_31, gR_73_32, gR_73_33, gR_73_34, gR_73_35, gR_73_45, gR_73_46, gR_73_47, gR_73_48, gR_73_49, gR_73_50, gR_73_51, gR_73_52, gR_P_5, gR_P_8, gR_T_0, gR_T_2, gR_T_3, gR_S_2, pI_0, pI_1, pI_6, pI_9, pI_13, pI_71, pI_73, pI_P, pI_T, pI_S, aR_3, aR_4, aR_17, aI_P_5, aI_P_8, aI_T_0, aI_T_2, aI_T_3, aI_S_2, aI_2, aI_5, aI_7, aI_8, aI_10, aI_11, aI_12, aI_14, aI_15, aI_72, aI_74, aI_75, aI_76, aI_77, aI_78, aI_79, aI_80, aI_81, aI_82, aI_83, aI_84, aI_85, aI_86, aI_87, aI_88, aI_89, aI_90, aI_91, aI_92, aI_93, aI_94, aI_95, aI_96, aI_97, aI_98, aI_99, aI_100, aI_101, aI_102, aI_103, sI_P_5, sI_P_8, sI_T_0, sI_T_2, sI_T_3, sI_S_2, sI_2, sI_5, sI_7, sI_8, sI_10, sI_11, sI_12, sI_14, sI_15, sI_72, sI_75, sI_76, sI_77, sI_78, sI_79, sI_80, sI_81, sI_84, sI_85, sI_86, sI_87, sI_89, sI_90, sI_91, sI_92, sI_93, sI_94, sI_95, sI_98, sI_99, sI_100, sI_101, sI_102, sI_103, aJ_16, sJ_16, zk_some, zb_some, zlet_eq, zjn1_eq, zjn2_eq, zjn3_eq, zjn4_eq, zjn5_eq, zjn6_eq, zjn7_eq, ite_true, ite_false, reduceIte, Nat.reduceEqDiff, and_true, true_and, false_and, and_false, reduceCtorEq, eq_self, X_isPerson hf hPe.2.1, if_pos ep, X_has hf hP.2.1, if_pos eq, e0, e1]
          rfl
        · unfold F_M_bar
          rw [show (1 : Int64) = (nI 1).toInt64 from rfl]
          simp (disch := first | omega | assumption | exact Or.inl rfl | exact Or.inr rfl | (repeat (first | assumption | apply fr_uI | apply fr_uJ)) ) only [fo_0, fo_1, fo_6, fo_9, fo_13, fo_71, fo_73, fo_P, fo_T, fo_S, gI_0, gI_1, gI_6, gI_9, gI_13, gI_71, gI_73, gI_P, gI_T, gI_S, gR_0_0, gR_0_1, gR_0_3, gR_0_4, gR_0_7, gR_0_8, gR_0_9, gR_0_10, gR_0_11, gR_1_2, gR_6_1, gR_6_2, gR_9_2, gR_9_3, gR_9_4, gR_13_1, gR_13_2, gR_13_3, gR_71_1, gR_73_2, gR_73_3, gR_73_5, gR_73_6, gR_73_7, gR_73_8, gR_73_9, gR_73_11, gR_73_12, gR_73_13, gR_73_14, gR_73_18, gR_73_19, gR_73_20, gR_73_29, gR_73_30, gR_73_31, gR_73_32, gR_73_33, gR_73_34, gR_73_35, gR_73_45, gR_73_46, gR_73_47, gR_73_48, gR_73_49, gR_73_50, gR_73_51, gR_73_52, gR_P_5, gR_P_8, gR_T_0, gR_T_2, gR_T_3, gR_S_2, pI_0, pI_1, pI_6, pI_9, pI_13, pI_71, pI_73, pI_P, pI_T, pI_S, aR_3, aR_4, aR_17, aI_P_5, aI_P_8, aI_T_0, aI_T_2, aI_T_3, aI_S_2, aI_2, aI_5, aI_7, aI_8, aI_10, aI_11, aI_12, aI_14, aI_15, aI_72, aI_74, aI_75, aI_76, aI_77, aI_78, aI_79, aI_80, aI_81, aI_82, aI_83, aI_84, aI_85, aI_86, aI_87, aI_88, aI_89, aI_90, aI_91, aI_92, aI_93, aI_94, aI_95, aI_96, aI_97, aI_98, aI_99, aI_100, aI_101, aI_102, aI_103, sI_P_5, sI_P_8, sI_T_0, sI_T_2, sI_T_3, sI_S_2, sI_2, sI_5, sI_7, sI_8, sI_10, sI_11, sI_12, sI_14, sI_15, sI_72, sI_75, sI_76, sI_77, sI_78, sI_79, sI_80, sI_81, sI_84, sI_85, sI_86, sI_87, sI_89, sI_90, sI_91, sI_92, sI_93, sI_94, sI_95, sI_98, sI_99, sI_100, sI_101, sI_102, sI_103, aJ_16, sJ_16, zk_some, zb_some, zlet_eq, zjn1_eq, zjn2_eq, zjn3_eq, zjn4_eq, zjn5_eq, zjn6_eq, zjn7_eq, ite_true, ite_false, reduceIte, Nat.reduceEqDiff, and_true, true_and, false_and, and_false, reduceCtorEq, eq_self, M_isPerson hf hPe.2.2.1 hp7, if_pos ep, M_isPost hf hP.2.2.1 hn6, if_pos eq, M_inL μ x 1 (by decide) rfl, if_neg hx]
          rfl
    · refine zOk_same (v := -2) h ?_ ?_
      · unfold F_X_bar
        simp (disch := first | omega | assumption | exact Or.inl rfl | exact Or.inr rfl | (repeat (first | assumption | apply fr_uI | apply fr_uJ)) ) only [fo_0, fo_1, fo_6, fo_9, fo_13, fo_71, fo_73, fo_P, fo_T, fo_S, gI_0, gI_1, gI_6, gI_9, gI_13, gI_71, gI_73, gI_P, gI_T, gI_S, gR_0_0, gR_0_1, gR_0_3, gR_0_4, gR_0_7, gR_0_8, gR_0_9, gR_0_10, gR_0_11, gR_1_2, gR_6_1, gR_6_2, gR_9_2, gR_9_3, gR_9_4, gR_13_1, gR_13_2, gR_13_3, gR_71_1, gR_73_2, gR_73_3, gR_73_5, gR_73_6, gR_73_7, gR_73_8, gR_73_9, gR_73_11, gR_73_12, gR_73_13, gR_73_14, gR_73_18, gR_73_19, gR_73_20, gR_73_29, gR_73_30, gR_73_31, gR_73_32, gR_73_33, gR_73_34, gR_73_35, gR_73_45, gR_73_46, gR_73_47, gR_73_48, gR_73_49, gR_73_50, gR_73_51, gR_73_52, gR_P_5, gR_P_8, gR_T_0, gR_T_2, gR_T_3, gR_S_2, pI_0, pI_1, pI_6, pI_9, pI_13, pI_71, pI_73, pI_P, pI_T, pI_S, aR_3, aR_4, aR_17, aI_P_5, aI_P_8, aI_T_0, aI_T_2, aI_T_3, aI_S_2, aI_2, aI_5, aI_7, aI_8, aI_10, aI_11, aI_12, aI_14, aI_15, aI_72, aI_74, aI_75, aI_76, aI_77, aI_78, aI_79, aI_80, aI_81, aI_82, aI_83, aI_84, aI_85, aI_86, aI_87, aI_88, aI_89, aI_90, aI_91, aI_92, aI_93, aI_94, aI_95, aI_96, aI_97, aI_98, aI_99, aI_100, aI_101, aI_102, aI_103, sI_P_5, sI_P_8, sI_T_0, sI_T_2, sI_T_3, sI_S_2, sI_2, sI_5, sI_7, sI_8, sI_10, sI_11, sI_12, sI_14, sI_15, sI_72, sI_75, sI_76, sI_77, sI_78, sI_79, sI_80, sI_81, sI_84, sI_85, sI_86, sI_87, sI_89, sI_90, sI_91, sI_92, sI_93, sI_94, sI_95, sI_98, sI_99, sI_100, sI_101, sI_102, sI_103, aJ_16, sJ_16, zk_some, zb_some, zlet_eq, zjn1_eq, zjn2_eq, zjn3_eq, zjn4_eq, zjn5_eq, zjn6_eq, zjn7_eq, ite_true, ite_false, reduceIte, Nat.reduceEqDiff, and_true, true_and, false_and, and_false, reduceCtorEq, eq_self, X_isPerson hf hPe.2.1, if_pos ep, X_has hf hP.2.1, if_neg hb]
        rfl
      · unfold F_M_bar
        simp (disch := first | omega | assumption | exact Or.inl rfl | exact Or.inr rfl | (repeat (first | assumption | apply fr_uI | apply fr_uJ)) ) only [fo_0, fo_1, fo_6, fo_9, fo_13, fo_71, fo_73, fo_P, fo_T, fo_S, gI_0, gI_1, gI_6, gI_9, gI_13, gI_71, gI_73, gI_P, gI_T, gI_S, gR_0_0, gR_0_1, gR_0_3, gR_0_4, gR_0_7, gR_0_8, gR_0_9, gR_0_10, gR_0_11, gR_1_2, gR_6_1, gR_6_2, gR_9_2, gR_9_3, gR_9_4, gR_13_1, gR_13_2, gR_13_3, gR_71_1, gR_73_2, gR_73_3, gR_73_5, gR_73_6, gR_73_7, gR_73_8, gR_73_9, gR_73_11, gR_73_12, gR_73_13, gR_73_14, gR_73_18, gR_73_19, gR_73_20, gR_73_29, gR_73_30, gR_73_31, gR_73_32, gR_73_33, gR_73_34, gR_73_35, gR_73_45, gR_73_46, gR_73_47, gR_73_48, gR_73_49, gR_73_50, gR_73_51, gR_73_52, gR_P_5, gR_P_8, gR_T_0, gR_T_2, gR_T_3, gR_S_2, pI_0, pI_1, pI_6, pI_9, pI_13, pI_71, pI_73, pI_P, pI_T, pI_S, aR_3, aR_4, aR_17, aI_P_5, aI_P_8, aI_T_0, aI_T_2, aI_T_3, aI_S_2, aI_2, aI_5, aI_7, aI_8, aI_10, aI_11, aI_12, aI_14, aI_15, aI_72, aI_74, aI_75, aI_76, aI_77, aI_78, aI_79, aI_80, aI_81, aI_82, aI_83, aI_84, aI_85, aI_86, aI_87, aI_88, aI_89, aI_90, aI_91, aI_92, aI_93, aI_94, aI_95, aI_96, aI_97, aI_98, aI_99, aI_100, aI_101, aI_102, aI_103, sI_P_5, sI_P_8, sI_T_0, sI_T_2, sI_T_3, sI_S_2, sI_2, sI_5, sI_7, sI_8, sI_10, sI_11, sI_12, sI_14, sI_15, sI_72, sI_75, sI_76, sI_77, sI_78, sI_79, sI_80, sI_81, sI_84, sI_85, sI_86, sI_87, sI_89, sI_90, sI_91, sI_92, sI_93, sI_94, sI_95, sI_98, sI_99, sI_100, sI_101, sI_102, sI_103, aJ_16, sJ_16, zk_some, zb_some, zlet_eq, zjn1_eq, zjn2_eq, zjn3_eq, zjn4_eq, zjn5_eq, zjn6_eq, zjn7_eq, ite_true, ite_false, reduceIte, Nat.reduceEqDiff, and_true, true_and, false_and, and_false, reduceCtorEq, eq_self, M_isPerson hf hPe.2.2.1 hp7, if_pos ep, M_isPost hf hP.2.2.1 hn6, if_neg hb]
        rfl
  · refine zOk_same (v := -2) h ?_ ?_
    · unfold F_X_bar
      simp (disch := first | omega | assumption | exact Or.inl rfl | exact Or.inr rfl | (repeat (first | assumption | apply fr_uI | apply fr_uJ)) ) only [fo_0, fo_1, fo_6, fo_9, fo_13, fo_71, fo_73, fo_P, fo_T, fo_S, gI_0, gI_1, gI_6, gI_9, gI_13, gI_71, gI_73, gI_P, gI_T, gI_S, gR_0_0, gR_0_1, gR_0_3, gR_0_4, gR_0_7, gR_0_8, gR_0_9, gR_0_10, gR_0_11, gR_1_2, gR_6_1, gR_6_2, gR_9_2, gR_9_3, gR_9_4, gR_13_1, gR_13_2, gR_13_3, gR_71_1, gR_73_2, gR_73_3, gR_73_5, gR_73_6, gR_73_7, gR_73_8, gR_73_9, gR_73_11, gR_73_12, gR_73_13, gR_73_14, gR_73_18, gR_73_19, gR_73_20, gR_73_29, gR_73_30, gR_73_31, gR_73_32, gR_73_33, gR_73_34, gR_73_35, gR_73_45, gR_73_46, gR_73_47, gR_73_48, gR_73_49, gR_73_50, gR_73_51, gR_73_52, gR_P_5, gR_P_8, gR_T_0, gR_T_2, gR_T_3, gR_S_2, pI_0, pI_1, pI_6, pI_9, pI_13, pI_71, pI_73, pI_P, pI_T, pI_S, aR_3, aR_4, aR_17, aI_P_5, aI_P_8, aI_T_0, aI_T_2, aI_T_3, aI_S_2, aI_2, aI_5, aI_7, aI_8, aI_10, aI_11, aI_12, aI_14, aI_15, aI_72, aI_74, aI_75, aI_76, aI_77, aI_78, aI_79, aI_80, aI_81, aI_82, aI_83, aI_84, aI_85, aI_86, aI_87, aI_88, aI_89, aI_90, aI_91, aI_92, aI_93, aI_94, aI_95, aI_96, aI_97, aI_98, aI_99, aI_100, aI_101, aI_102, aI_103, sI_P_5, sI_P_8, sI_T_0, sI_T_2, sI_T_3, sI_S_2, sI_2, sI_5, sI_7, sI_8, sI_10, sI_11, sI_12, sI_14, sI_15, sI_72, sI_75, sI_76, sI_77, sI_78, sI_79, sI_80, sI_81, sI_84, sI_85, sI_86, sI_87, sI_89, sI_90, sI_91, sI_92, sI_93, sI_94, sI_95, sI_98, sI_99, sI_100, sI_101, sI_102, sI_103, aJ_16, sJ_16, zk_some, zb_some, zlet_eq, zjn1_eq, zjn2_eq, zjn3_eq, zjn4_eq, zjn5_eq, zjn6_eq, zjn7_eq, ite_true, ite_false, reduceIte, Nat.reduceEqDiff, and_true, true_and, false_and, and_false, reduceCtorEq, eq_self, X_isPerson hf hPe.2.1, if_neg ha]
      rfl
    · unfold F_M_bar
      simp (disch := first | omega | assumption | exact Or.inl rfl | exact Or.inr rfl | (repeat (first | assumption | apply fr_uI | apply fr_uJ)) ) only [fo_0, fo_1, fo_6, fo_9, fo_13, fo_71, fo_73, fo_P, fo_T, fo_S, gI_0, gI_1, gI_6, gI_9, gI_13, gI_71, gI_73, gI_P, gI_T, gI_S, gR_0_0, gR_0_1, gR_0_3, gR_0_4, gR_0_7, gR_0_8, gR_0_9, gR_0_10, gR_0_11, gR_1_2, gR_6_1, gR_6_2, gR_9_2, gR_9_3, gR_9_4, gR_13_1, gR_13_2, gR_13_3, gR_71_1, gR_73_2, gR_73_3, gR_73_5, gR_73_6, gR_73_7, gR_73_8, gR_73_9, gR_73_11, gR_73_12, gR_73_13, gR_73_14, gR_73_18, gR_73_19, gR_73_20, gR_73_29, gR_73_30, gR_73_31, gR_73_32, gR_73_33, gR_73_34, gR_73_35, gR_73_45, gR_73_46, gR_73_47, gR_73_48, gR_73_49, gR_73_50, gR_73_51, gR_73_52, gR_P_5, gR_P_8, gR_T_0, gR_T_2, gR_T_3, gR_S_2, pI_0, pI_1, pI_6, pI_9, pI_13, pI_71, pI_73, pI_P, pI_T, pI_S, aR_3, aR_4, aR_17, aI_P_5, aI_P_8, aI_T_0, aI_T_2, aI_T_3, aI_S_2, aI_2, aI_5, aI_7, aI_8, aI_10, aI_11, aI_12, aI_14, aI_15, aI_72, aI_74, aI_75, aI_76, aI_77, aI_78, aI_79, aI_80, aI_81, aI_82, aI_83, aI_84, aI_85, aI_86, aI_87, aI_88, aI_89, aI_90, aI_91, aI_92, aI_93, aI_94, aI_95, aI_96, aI_97, aI_98, aI_99, aI_100, aI_101, aI_102, aI_103, sI_P_5, sI_P_8, sI_T_0, sI_T_2, sI_T_3, sI_S_2, sI_2, sI_5, sI_7, sI_8, sI_10, sI_11, sI_12, sI_14, sI_15, sI_72, sI_75, sI_76, sI_77, sI_78, sI_79, sI_80, sI_81, sI_84, sI_85, sI_86, sI_87, sI_89, sI_90, sI_91, sI_92, sI_93, sI_94, sI_95, sI_98, sI_99, sI_100, sI_101, sI_102, sI_103, aJ_16, sJ_16, zk_some, zb_some, zlet_eq, zjn1_eq, zjn2_eq, zjn3_eq, zjn4_eq, zjn5_eq, zjn6_eq, zjn7_eq, ite_true, ite_false, reduceIte, Nat.reduceEqDiff, and_true, true_and, false_and, and_false, reduceCtorEq, eq_self, M_isPerson hf hPe.2.2.1 hp7, if_neg ha]
      rfl
end S
