-- ===== taken =====
section S
variable {n p yr tx rl tp c : Nat} {μ : zS}
theorem M_taken_loop (u : zS) {k t : Nat} (hk : k < 6) (ht : t < 6) (f : Option Int32) : zfix1 (fun (r6 : Int32 → Option (Int32)) (x7 : Int32) => if x7 = nI t then (if x7 = nI t then f else (some (-13))) else (if x7 ≤ 0 then (if x7 = nI t then f else (some (-13))) else ((F_M_over u x7).bind fun v12 => r6 v12))) zFU (nI k) = if zisA k t then f else some (-13) := by
  have key : ∀ k : Fin 6, ∀ t : Fin 6, ∀ m, zfix1 (fun (r6 : Int32 → Option (Int32)) (x7 : Int32) => if x7 = nI t.1 then (if x7 = nI t.1 then f else (some (-13))) else (if x7 ≤ 0 then (if x7 = nI t.1 then f else (some (-13))) else ((F_M_over u x7).bind fun v12 => r6 v12))) (m + 3) (nI k.1) = if zisA k.1 t.1 then f else some (-13) := by
    intro k t m
    match k, t with
    | ⟨0, _⟩, ⟨0, _⟩ | ⟨0, _⟩, ⟨1, _⟩ | ⟨0, _⟩, ⟨2, _⟩ | ⟨0, _⟩, ⟨3, _⟩ | ⟨0, _⟩, ⟨4, _⟩ | ⟨0, _⟩, ⟨5, _⟩ => rfl
    | ⟨1, _⟩, ⟨0, _⟩ | ⟨1, _⟩, ⟨1, _⟩ | ⟨1, _⟩, ⟨2, _⟩ | ⟨1, _⟩, ⟨3, _⟩ | ⟨1, _⟩, ⟨4, _⟩ | ⟨1, _⟩, ⟨5, _⟩ => rfl
    | ⟨2, _⟩, ⟨0, _⟩ | ⟨2, _⟩, ⟨1, _⟩ | ⟨2, _⟩, ⟨2, _⟩ | ⟨2, _⟩, ⟨3, _⟩ | ⟨2, _⟩, ⟨4, _⟩ | ⟨2, _⟩, ⟨5, _⟩ => rfl
    | ⟨3, _⟩, ⟨0, _⟩ | ⟨3, _⟩, ⟨1, _⟩ | ⟨3, _⟩, ⟨2, _⟩ | ⟨3, _⟩, ⟨3, _⟩ | ⟨3, _⟩, ⟨4, _⟩ | ⟨3, _⟩, ⟨5, _⟩ => rfl
    | ⟨4, _⟩, ⟨0, _⟩ | ⟨4, _⟩, ⟨1, _⟩ | ⟨4, _⟩, ⟨2, _⟩ | ⟨4, _⟩, ⟨3, _⟩ | ⟨4, _⟩, ⟨4, _⟩ | ⟨4, _⟩, ⟨5, _⟩ => rfl
    | ⟨5, _⟩, ⟨0, _⟩ | ⟨5, _⟩, ⟨1, _⟩ | ⟨5, _⟩, ⟨2, _⟩ | ⟨5, _⟩, ⟨3, _⟩ | ⟨5, _⟩, ⟨4, _⟩ | ⟨5, _⟩, ⟨5, _⟩ => rfl
  exact key ⟨k, hk⟩ ⟨t, ht⟩ (zFU - 3)
theorem K_taken (h : zSt n p yr tx rl tp c μ) (a b : Int32) : ∃ v, F_X_taken μ 0 a b = some v ∧ F_M_taken μ 73 a b = some v := by
  obtain ⟨hf, hP, hPe, hAs, hTa, hBa, hYr, hTp, hTx, hIm, hSh, hLt⟩ := id h
  have hp7 := hPe.1
  have eI := M_inL μ b 5 (by decide) (z := 5) rfl
  rcases zcase b (n := 6) (by decide) with ⟨t, ht, rfl⟩ | hb
  · have et := zc_lt ht (show 6 < 2 ^ 31 by decide)
    rw [if_pos et] at eI
    have e1 : ¬ nI t < 0 := Int32.not_lt.mpr et.1
    have e2 : nI t < 6 := et.2
    rcases zcase a (n := p) (by omega) with ⟨w, hw, rfl⟩ | ha
    · have hw7 : w < 7 := by omega
      have ep : (nI 0 ≤ nI w ∧ nI w < nI p) := zc_lt hw (by omega)
      obtain ⟨k1, k2, k3, k4, k5, k6, k7, -⟩ := hPe.2.2.2 w hw7 hw
      obtain ⟨k, hk, hke, -⟩ := zRg_ex k2
      have eA := X_isA (t := t) hf hw7 (k1.trans hke) (by omega) ht
      refine ⟨if zisA k t then μ.2.1 78 w else -13, ?_, ?_⟩
      · unfold F_X_taken
        rw [if_neg e1, if_pos e2, fo_0 hf, zb_some, X_isPerson hf hPe.2.1, if_pos ep, zb_some, if_neg (show ¬ nI 1 = 0 by decide)]
        simp (disch := first | omega | assumption | exact Or.inl rfl | exact Or.inr rfl | (repeat (first | assumption | apply fr_uI | apply fr_uJ)) ) only [fo_0, fo_1, fo_6, fo_9, fo_13, fo_71, fo_73, fo_P, fo_T, fo_S, gI_0, gI_1, gI_6, gI_9, gI_13, gI_71, gI_73, gI_P, gI_T, gI_S, gR_0_0, gR_0_1, gR_0_3, gR_0_4, gR_0_7, gR_0_8, gR_0_9, gR_0_10, gR_0_11, gR_1_2, gR_6_1, gR_6_2, gR_9_2, gR_9_3, gR_9_4, gR_13_1, gR_13_2, gR_13_3, gR_71_1, gR_73_2, gR_73_3, gR_73_5, gR_73_6, gR_73_7, gR_73_8, gR_73_9, gR_73_11, gR_73_12, gR_73_13, gR_73_14, gR_73_18, gR_73_19, gR_73_20, gR_73_29, gR_73_30, gR_73_31, gR_73_32, gR_73_33, gR_73_34, gR_73_35, gR_73_45, gR_73_46, gR_73_47, gR_73_48, gR_73_49, gR_73_50, gR_73_51, gR_73_52, gR_P_5, gR_P_8, gR_T_0, gR_T_2, gR_T_3, gR_S_2, pI_0, pI_1, pI_6, pI_9, pI_13, pI_71, pI_73, pI_P, pI_T, pI_S, aR_3, aR_4, aR_17, aI_P_5, aI_P_8, aI_T_0, aI_T_2, aI_T_3, aI_S_2, aI_2, aI_5, aI_7, aI_8, aI_10, aI_11, aI_12, aI_14, aI_15, aI_72, aI_74, aI_75, aI_76, aI_77, aI_78, aI_79, aI_80, aI_81, aI_82, aI_83, aI_84, aI_85, aI_86, aI_87, aI_88, aI_89, aI_90, aI_91, aI_92, aI_93, aI_94, aI_95, aI_96, aI_97, aI_98, aI_99, aI_100, aI_101, aI_102, aI_103, sI_P_5, sI_P_8, sI_T_0, sI_T_2, sI_T_3, sI_S_2, sI_2, sI_5, sI_7, sI_8, sI_10, sI_11, sI_12, sI_14, sI_15, sI_72, sI_75, sI_76, sI_77, sI_78, sI_79, sI_80, sI_81, sI_84, sI_85, sI_86, sI_87, sI_89, sI_90, sI_91, sI_92, sI_93, sI_94, sI_95, sI_98, sI_99, sI_100, sI_101, sI_102, sI_103, aJ_16, sJ_16, zk_some, zb_some, zlet_eq, zjn1_eq, zjn2_eq, zjn3_eq, zjn4_eq, zjn5_eq, zjn6_eq, zjn7_eq, ite_true, ite_false, reduceIte, Nat.reduceEqDiff, and_true, true_and, false_and, and_false, reduceCtorEq, eq_self, eA, k6]
        cases zisA k t <;> rfl
      · unfold F_M_taken
        rw [eI, zb_some, if_neg (show ¬ nI 1 = 0 by decide), fo_73 hf, zb_some, M_isPerson hf hPe.2.2.1 hp7, if_pos ep, zb_some, if_neg (show ¬ nI 1 = 0 by decide)]
        simp (disch := first | omega | assumption | exact Or.inl rfl | exact Or.inr rfl | (repeat (first | assumption | apply fr_uI | apply fr_uJ)) ) only [fo_0, fo_1, fo_6, fo_9, fo_13, fo_71, fo_73, fo_P, fo_T, fo_S, gI_0, gI_1, gI_6, gI_9, gI_13, gI_71, gI_73, gI_P, gI_T, gI_S, gR_0_0, gR_0_1, gR_0_3, gR_0_4, gR_0_7, gR_0_8, gR_0_9, gR_0_10, gR_0_11, gR_1_2, gR_6_1, gR_6_2, gR_9_2, gR_9_3, gR_9_4, gR_13_1, gR_13_2, gR_13_3, gR_71_1, gR_73_2, gR_73_3, gR_73_5, gR_73_6, gR_73_7, gR_73_8, gR_73_9, gR_73_11, gR_73_12, gR_73_13, gR_73_14, gR_73_18, gR_73_19, gR_73_20, gR_73_29, gR_73_30, gR_73_31, gR_73_32, gR_73_33, gR_73_34, gR_73_35, gR_73_45, gR_73_46, gR_73_47, gR_73_48, gR_73_49, gR_73_50, gR_73_51, gR_73_52, gR_P_5, gR_P_8, gR_T_0, gR_T_2, gR_T_3, gR_S_2, pI_0, pI_1, pI_6, pI_9, pI_13, pI_71, pI_73, pI_P, pI_T, pI_S, aR_3, aR_4, aR_17, aI_P_5, aI_P_8, aI_T_0, aI_T_2, aI_T_3, aI_S_2, aI_2, aI_5, aI_7, aI_8, aI_10, aI_11, aI_12, aI_14, aI_15, aI_72, aI_74, aI_75, aI_76, aI_77, aI_78, aI_79, aI_80, aI_81, aI_82, aI_83, aI_84, aI_85, aI_86, aI_87, aI_88, aI_89, aI_90, aI_91, aI_92, aI_93, aI_94, aI_95, aI_96, aI_97, aI_98, aI_99, aI_100, aI_101, aI_102, aI_103, sI_P_5, sI_P_8, sI_T_0, sI_T_2, sI_T_3, sI_S_2, sI_2, sI_5, sI_7, sI_8, sI_10, sI_11, sI_12, sI_14, sI_15, sI_72, sI_75, sI_76, sI_77, sI_78, sI_79, sI_80, sI_81, sI_84, sI_85, sI_86, sI_87, sI_89, sI_90, sI_91, sI_92, sI_93, sI_94, sI_95, sI_98, sI_99, sI_100, sI_101, sI_102, sI_103, aJ_16, sJ_16, zk_some, zb_some, zlet_eq, zjn1_eq, zjn2_eq, zjn3_eq, zjn4_eq, zjn5_eq, zjn6_eq, zjn7_eq, ite_true, ite_false, reduceIte, Nat.reduceEqDiff, and_true, true_and, false_and, and_false, reduceCtorEq, eq_self]
        rw [hke]
        refine (M_taken_loop μ (show k < 6 by omega) ht (some (μ.2.1 78 w))).trans ?_
        cases zisA k t <;> rfl
    · refine ⟨-11, ?_, ?_⟩
      · unfold F_X_taken
        rw [if_neg e1, if_pos e2, fo_0 hf, zb_some, X_isPerson hf hPe.2.1, if_neg ha]; rfl
      · unfold F_M_taken
        rw [eI, zb_some, if_neg (show ¬ nI 1 = 0 by decide), fo_73 hf, zb_some, M_isPerson hf hPe.2.2.1 hp7, if_neg ha]; rfl
  · rw [if_neg hb] at eI
    refine ⟨-2, ?_, ?_⟩
    · unfold F_X_taken
      by_cases h1 : b < 0
      · rw [if_pos h1]
      · rw [if_neg h1, if_neg (show ¬ b < 6 from fun q => hb ⟨Int32.not_lt.mp h1, q⟩)]
    · unfold F_M_taken
      rw [eI]; rfl
end S
