-- ===== kinds =====
def zisA (k t : Nat) : Bool := (k == t) || (t == 0) || (k == 3 && t == 1) || (k == 4 && t == 2)
section S
variable {n p yr tx rl tp c : Nat} {μ : zS}
theorem X_isA {w k t : Nat} (hf : zFr μ) (hw : w < 7) (hk : μ.2.1 (18 + 3 * w) 0 = nI k) (hk6 : k < 6) (ht : t < 6) : F_Person_isA μ (18 + 3 * w) (nI t) = some (if zisA k t then nI 1 else nI 0) := by
  unfold F_Person_isA
  rw [gI_P hf hw, zb_some, hk]
  clear hk
  revert ht
  revert t
  revert hk6
  revert k
  decide +kernel
def zkp (k nb : Nat) : Nat := if k = 2 ∨ k = 4 then 2 + nb else if k = 3 then 3 else if k = 5 then 1 else 2
theorem X_keeps {w k nb : Nat} (hf : zFr μ) (hw : w < 7) (hk : μ.2.1 (18 + 3 * w) 0 = nI k) (hk6 : k < 6) (hnb : μ.2.1 (18 + 3 * w) 2 = nI nb) : F_Person_keeps μ (18 + 3 * w) = some (nI (zkp k nb)) := by
  unfold F_Person_keeps
  have h1 : F_Person_isA μ (18 + 3 * w) 2 = some (if zisA k 2 then nI 1 else nI 0) := X_isA (t := 2) hf hw hk hk6 (by decide)
  simp (disch := first | omega | assumption | exact Or.inl rfl | exact Or.inr rfl | (repeat (first | assumption | apply fr_uI | apply fr_uJ)) ) only [fo_0, fo_1, fo_6, fo_9, fo_13, fo_71, fo_73, fo_P, fo_T, fo_S, gI_0, gI_1, gI_6, gI_9, gI_13, gI_71, gI_73, gI_P, gI_T, gI_S, gR_0_0, gR_0_1, gR_0_3, gR_0_4, gR_0_7, gR_0_8, gR_0_9, gR_0_10, gR_0_11, gR_1_2, gR_6_1, gR_6_2, gR_9_2, gR_9_3, gR_9_4, gR_13_1, gR_13_2, gR_13_3, gR_71_1, gR_73_2, gR_73_3, gR_73_5, gR_73_6, gR_73_7, gR_73_8, gR_73_9, gR_73_11, gR_73_12, gR_73_13, gR_73_14, gR_73_18, gR_73_19, gR_73_20, gR_73_29, gR_73_30, gR_73_31, gR_73_32, gR_73_33, gR_73_34, gR_73_35, gR_73_45, gR_73_46, gR_73_47, gR_73_48, gR_73_49, gR_73_50, gR_73_51, gR_73_52, gR_P_5, gR_P_8, gR_T_0, gR_T_2, gR_T_3, gR_S_2, pI_0, pI_1, pI_6, pI_9, pI_13, pI_71, pI_73, pI_P, pI_T, pI_S, aR_3, aR_4, aR_17, aI_P_5, aI_P_8, aI_T_0, aI_T_2, aI_T_3, aI_S_2, aI_2, aI_5, aI_7, aI_8, aI_10, aI_11, aI_12, aI_14, aI_15, aI_72, aI_74, aI_75, aI_76, aI_77, aI_78, aI_79, aI_80, aI_81, aI_82, aI_83, aI_84, aI_85, aI_86, aI_87, aI_88, aI_89, aI_90, aI_91, aI_92, aI_93, aI_94, aI_95, aI_96, aI_97, aI_98, aI_99, aI_100, aI_101, aI_102, aI_103, sI_P_5, sI_P_8, sI_T_0, sI_T_2, sI_T_3, sI_S_2, sI_2, sI_5, sI_7, sI_8, sI_10, sI_11, sI_12, sI_14, sI_15, sI_72, sI_75, sI_76, sI_77, sI_78, sI_79, sI_80, sI_81, sI_84, sI_85, sI_86, sI_87, sI_89, sI_90, sI_91, sI_92, sI_93, sI_94, sI_95, sI_98, sI_99, sI_100, sI_101, sI_102, sI_103, aJ_16, sJ_16, zk_some, zb_some, zlet_eq, zjn1_eq, zjn2_eq, zjn3_eq, zjn4_eq, zjn5_eq, zjn6_eq, zjn7_eq, ite_true, ite_false, reduceIte, Nat.reduceEqDiff, and_true, true_and, false_and, and_false, reduceCtorEq, eq_self, h1]
  rcases (show k = 0 ∨ k = 1 ∨ k = 2 ∨ k = 3 ∨ k = 4 ∨ k = 5 by omega) with rfl | rfl | rfl | rfl | rfl | rfl
  · rw [hk]; rfl
  · rw [hk]; rfl
  · rw [hk, hnb]
    show some (nI 2 + nI nb) = some (nI (zkp 2 nb))
    rw [nI_add]; rfl
  · rw [hk]; rfl
  · rw [hk, hnb]
    show some (nI 2 + nI nb) = some (nI (zkp 4 nb))
    rw [nI_add]; rfl
  · rw [hk]
    show some ((2 : Int32) - 1) = some (nI 1)
    decide
theorem M_keeps {w k nb : Nat} (hf : zFr μ) (hw : w < 7) (hk : μ.2.1 76 w = nI k) (hk6 : k < 6) (hnb : μ.2.1 78 w = nI nb) : F_M_keeps μ 73 (nI w) = some (nI (zkp k nb)) := by
  unfold F_M_keeps
  simp (disch := first | omega | assumption | exact Or.inl rfl | exact Or.inr rfl | (repeat (first | assumption | apply fr_uI | apply fr_uJ)) ) only [fo_0, fo_1, fo_6, fo_9, fo_13, fo_71, fo_73, fo_P, fo_T, fo_S, gI_0, gI_1, gI_6, gI_9, gI_13, gI_71, gI_73, gI_P, gI_T, gI_S, gR_0_0, gR_0_1, gR_0_3, gR_0_4, gR_0_7, gR_0_8, gR_0_9, gR_0_10, gR_0_11, gR_1_2, gR_6_1, gR_6_2, gR_9_2, gR_9_3, gR_9_4, gR_13_1, gR_13_2, gR_13_3, gR_71_1, gR_73_2, gR_73_3, gR_73_5, gR_73_6, gR_73_7, gR_73_8, gR_73_9, gR_73_11, gR_73_12, gR_73_13, gR_73_14, gR_73_18, gR_73_19, gR_73_20, gR_73_29, gR_73_30, gR_73_31, gR_73_32, gR_73_33, gR_73_34, gR_73_35, gR_73_45, gR_73_46, gR_73_47, gR_73_48, gR_73_49, gR_73_50, gR_73_51, gR_73_52, gR_P_5, gR_P_8, gR_T_0, gR_T_2, gR_T_3, gR_S_2, pI_0, pI_1, pI_6, pI_9, pI_13, pI_71, pI_73, pI_P, pI_T, pI_S, aR_3, aR_4, aR_17, aI_P_5, aI_P_8, aI_T_0, aI_T_2, aI_T_3, aI_S_2, aI_2, aI_5, aI_7, aI_8, aI_10, aI_11, aI_12, aI_14, aI_15, aI_72, aI_74, aI_75, aI_76, aI_77, aI_78, aI_79, aI_80, aI_81, aI_82, aI_83, aI_84, aI_85, aI_86, aI_87, aI_88, aI_89, aI_90, aI_91, aI_92, aI_93, aI_94, aI_95, aI_96, aI_97, aI_98, aI_99, aI_100, aI_101, aI_102, aI_103, sI_P_5, sI_P_8, sI_T_0, sI_T_2, sI_T_3, sI_S_2, sI_2, sI_5, sI_7, sI_8, sI_10, sI_11, sI_12, sI_14, sI_15, sI_72, sI_75, sI_76, sI_77, sI_78, sI_79, sI_80, sI_81, sI_84, sI_85, sI_86, sI_87, sI_89, sI_90, sI_91, sI_92, sI_93, sI_94, sI_95, sI_98, sI_99, sI_100, sI_101, sI_102, sI_103, aJ_16, sJ_16, zk_some, zb_some, zlet_eq, zjn1_eq, zjn2_eq, zjn3_eq, zjn4_eq, zjn5_eq, zjn6_eq, zjn7_eq, ite_true, ite_false, reduceIte, Nat.reduceEqDiff, and_true, true_and, false_and, and_false, reduceCtorEq, eq_self, hk, hnb]
  rcases (show k = 0 ∨ k = 1 ∨ k = 2 ∨ k = 3 ∨ k = 4 ∨ k = 5 by omega) with rfl | rfl | rfl | rfl | rfl | rfl
  · rfl
  · rfl
  · show some (nI 2 + nI nb) = some (nI (zkp 2 nb))
    rw [nI_add]; rfl
  · rfl
  · show some (nI 2 + nI nb) = some (nI (zkp 4 nb))
    rw [nI_add]; rfl
  · rfl
theorem X_isBarred {w q b : Nat} (hf : zFr μ) (hw : w < 7) (hq : q < 6) (hb : μ.2.1 (18 + 3 * w) 6 = nI b) (hb6 : b ≤ 63) : F_Person_isBarred μ (18 + 3 * w) (nI q) = some (if b.testBit q then nI 1 else nI 0) := by
  unfold F_Person_isBarred
  have h0 : b < 2 ^ 31 := by omega
  simp (disch := first | omega | assumption | exact Or.inl rfl | exact Or.inr rfl | (repeat (first | assumption | apply fr_uI | apply fr_uJ)) ) only [fo_0, fo_1, fo_6, fo_9, fo_13, fo_71, fo_73, fo_P, fo_T, fo_S, gI_0, gI_1, gI_6, gI_9, gI_13, gI_71, gI_73, gI_P, gI_T, gI_S, gR_0_0, gR_0_1, gR_0_3, gR_0_4, gR_0_7, gR_0_8, gR_0_9, gR_0_10, gR_0_11, gR_1_2, gR_6_1, gR_6_2, gR_9_2, gR_9_3, gR_9_4, gR_13_1, gR_13_2, gR_13_3, gR_71_1, gR_73_2, gR_73_3, gR_73_5, gR_73_6, gR_73_7, gR_73_8, gR_73_9, gR_73_11, gR_73_12, gR_73_13, gR_73_14, gR_73_18, gR_73_19, gR_73_20, gR_73_29, gR_73_30, gR_73_31, gR_73_32, gR_73_33, gR_73_34, gR_73_35, gR_73_45, gR_73_46, gR_73_47, gR_73_48, gR_73_49, gR_73_50, gR_73_51, gR_73_52, gR_P_5, gR_P_8, gR_T_0, gR_T_2, gR_T_3, gR_S_2, pI_0, pI_1, pI_6, pI_9, pI_13, pI_71, pI_73, pI_P, pI_T, pI_S, aR_3, aR_4, aR_17, aI_P_5, aI_P_8, aI_T_0, aI_T_2, aI_T_3, aI_S_2, aI_2, aI_5, aI_7, aI_8, aI_10, aI_11, aI_12, aI_14, aI_15, aI_72, aI_74, aI_75, aI_76, aI_77, aI_78, aI_79, aI_80, aI_81, aI_82, aI_83, aI_84, aI_85, aI_86, aI_87, aI_88, aI_89, aI_90, aI_91, aI_92, aI_93, aI_94, aI_95, aI_96, aI_97, aI_98, aI_99, aI_100, aI_101, aI_102, aI_103, sI_P_5, sI_P_8, sI_T_0, sI_T_2, sI_T_3, sI_S_2, sI_2, sI_5, sI_7, sI_8, sI_10, sI_11, sI_12, sI_14, sI_15, sI_72, sI_75, sI_76, sI_77, sI_78, sI_79, sI_80, sI_81, sI_84, sI_85, sI_86, sI_87, sI_89, sI_90, sI_91, sI_92, sI_93, sI_94, sI_95, sI_98, sI_99, sI_100, sI_101, sI_102, sI_103, aJ_16, sJ_16, zk_some, zb_some, zlet_eq, zjn1_eq, zjn2_eq, zjn3_eq, zjn4_eq, zjn5_eq, zjn6_eq, zjn7_eq, ite_true, ite_false, reduceIte, Nat.reduceEqDiff, and_true, true_and, false_and, and_false, reduceCtorEq, eq_self, hb]
  have h1 := nI_bit (b := b) (q := q) h0 (by omega)
  by_cases h2 : b.testBit q = true
  · rw [if_pos (h1.mpr h2), if_pos h2]; rfl
  · rw [if_neg (fun z => h2 (h1.mp z)), if_neg h2]; rfl
theorem X_needs {q b : Nat} (hf : zFr μ) (hq : q < 6) (hb : μ.2.1 1 1 = nI b) (hb6 : b ≤ 63) : F_Office_needs μ 1 (nI q) = some (if b.testBit q then nI 1 else nI 0) := by
  unfold F_Office_needs
  have h0 : b < 2 ^ 31 := by omega
  simp (disch := first | omega | assumption | exact Or.inl rfl | exact Or.inr rfl | (repeat (first | assumption | apply fr_uI | apply fr_uJ)) ) only [fo_0, fo_1, fo_6, fo_9, fo_13, fo_71, fo_73, fo_P, fo_T, fo_S, gI_0, gI_1, gI_6, gI_9, gI_13, gI_71, gI_73, gI_P, gI_T, gI_S, gR_0_0, gR_0_1, gR_0_3, gR_0_4, gR_0_7, gR_0_8, gR_0_9, gR_0_10, gR_0_11, gR_1_2, gR_6_1, gR_6_2, gR_9_2, gR_9_3, gR_9_4, gR_13_1, gR_13_2, gR_13_3, gR_71_1, gR_73_2, gR_73_3, gR_73_5, gR_73_6, gR_73_7, gR_73_8, gR_73_9, gR_73_11, gR_73_12, gR_73_13, gR_73_14, gR_73_18, gR_73_19, gR_73_20, gR_73_29, gR_73_30, gR_73_31, gR_73_32, gR_73_33, gR_73_34, gR_73_35, gR_73_45, gR_73_46, gR_73_47, gR_73_48, gR_73_49, gR_73_50, gR_73_51, gR_73_52, gR_P_5, gR_P_8, gR_T_0, gR_T_2, gR_T_3, gR_S_2, pI_0, pI_1, pI_6, pI_9, pI_13, pI_71, pI_73, pI_P, pI_T, pI_S, aR_3, aR_4, aR_17, aI_P_5, aI_P_8, aI_T_0, aI_T_2, aI_T_3, aI_S_2, aI_2, aI_5, aI_7, aI_8, aI_10, aI_11, aI_12, aI_14, aI_15, aI_72, aI_74, aI_75, aI_76, aI_77, aI_78, aI_79, aI_80, aI_81, aI_82, aI_83, aI_84, aI_85, aI_86, aI_87, aI_88, aI_89, aI_90, aI_91, aI_92, aI_93, aI_94, aI_95, aI_96, aI_97, aI_98, aI_99, aI_100, aI_101, aI_102, aI_103, sI_P_5, sI_P_8, sI_T_0, sI_T_2, sI_T_3, sI_S_2, sI_2, sI_5, sI_7, sI_8, sI_10, sI_11, sI_12, sI_14, sI_15, sI_72, sI_75, sI_76, sI_77, sI_78, sI_79, sI_80, sI_81, sI_84, sI_85, sI_86, sI_87, sI_89, sI_90, sI_91, sI_92, sI_93, sI_94, sI_95, sI_98, sI_99, sI_100, sI_101, sI_102, sI_103, aJ_16, sJ_16, zk_some, zb_some, zlet_eq, zjn1_eq, zjn2_eq, zjn3_eq, zjn4_eq, zjn5_eq, zjn6_eq, zjn7_eq, ite_true, ite_false, reduceIte, Nat.reduceEqDiff, and_true, true_and, false_and, and_false, reduceCtorEq, eq_self, hb]
  have h1 := nI_bit (b := b) (q := q) h0 (by omega)
  by_cases h2 : b.testBit q = true
  · rw [if_pos (h1.mpr h2), if_pos h2]; rfl
  · rw [if_neg (fun z => h2 (h1.mp z)), if_neg h2]; rfl
/-- since when, in years -/
def zsn (yr : Nat) (t s : Int32) : Int32 := if t = 0 then nI 99 else nI yr - s
theorem X_since {w q : Nat} (hf : zFr μ) (hw : w < 7) (hq : q < 6) {t s : Int32} (h : zTb n (μ.2.1 (19 + 3 * w) q) t s q) : F_Person_since μ (18 + 3 * w) (nI q) (nI yr) = some (zsn yr t s) := by
  unfold F_Person_since zsn
  simp (disch := first | omega | assumption | exact Or.inl rfl | exact Or.inr rfl | (repeat (first | assumption | apply fr_uI | apply fr_uJ)) ) only [fo_0, fo_1, fo_6, fo_9, fo_13, fo_71, fo_73, fo_P, fo_T, fo_S, gI_0, gI_1, gI_6, gI_9, gI_13, gI_71, gI_73, gI_P, gI_T, gI_S, gR_0_0, gR_0_1, gR_0_3, gR_0_4, gR_0_7, gR_0_8, gR_0_9, gR_0_10, gR_0_11, gR_1_2, gR_6_1, gR_6_2, gR_9_2, gR_9_3, gR_9_4, gR_13_1, gR_13_2, gR_13_3, gR_71_1, gR_73_2, gR_73_3, gR_73_5, gR_73_6, gR_73_7, gR_73_8, gR_73_9, gR_73_11, gR_73_12, gR_73_13, gR_73_14, gR_73_18, gR_73_19, gR_73_20, gR_73_29, gR_73_30, gR_73_31, gR_73_32, gR_73_33, gR_73_34, gR_73_35, gR_73_45, gR_73_46, gR_73_47, gR_73_48, gR_73_49, gR_73_50, gR_73_51, gR_73_52, gR_P_5, gR_P_8, gR_T_0, gR_T_2, gR_T_3, gR_S_2, pI_0, pI_1, pI_6, pI_9, pI_13, pI_71, pI_73, pI_P, pI_T, pI_S, aR_3, aR_4, aR_17, aI_P_5, aI_P_8, aI_T_0, aI_T_2, aI_T_3, aI_S_2, aI_2, aI_5, aI_7, aI_8, aI_10, aI_11, aI_12, aI_14, aI_15, aI_72, aI_74, aI_75, aI_76, aI_77, aI_78, aI_79, aI_80, aI_81, aI_82, aI_83, aI_84, aI_85, aI_86, aI_87, aI_88, aI_89, aI_90, aI_91, aI_92, aI_93, aI_94, aI_95, aI_96, aI_97, aI_98, aI_99, aI_100, aI_101, aI_102, aI_103, sI_P_5, sI_P_8, sI_T_0, sI_T_2, sI_T_3, sI_S_2, sI_2, sI_5, sI_7, sI_8, sI_10, sI_11, sI_12, sI_14, sI_15, sI_72, sI_75, sI_76, sI_77, sI_78, sI_79, sI_80, sI_81, sI_84, sI_85, sI_86, sI_87, sI_89, sI_90, sI_91, sI_92, sI_93, sI_94, sI_95, sI_98, sI_99, sI_100, sI_101, sI_102, sI_103, aJ_16, sJ_16, zk_some, zb_some, zlet_eq, zjn1_eq, zjn2_eq, zjn3_eq, zjn4_eq, zjn5_eq, zjn6_eq, zjn7_eq, ite_true, ite_false, reduceIte, Nat.reduceEqDiff, and_true, true_and, false_and, and_false, reduceCtorEq, eq_self]
  rcases h with ⟨h1, h2⟩ | ⟨h1, h2, h3, h4⟩
  · rw [h2, h1]; rfl
  · rw [h2, h1]
    obtain ⟨v, hv, ev, -⟩ := zRg_ex h3
    rw [ev, if_neg (nI_n1 (by omega)), if_neg (by decide)]
theorem X_recalls {w q k nb : Nat} (hf : zFr μ) (hw : w < 7) (hq : q < 6) (hk : μ.2.1 (18 + 3 * w) 0 = nI k) (hk6 : k < 6) (hnb : μ.2.1 (18 + 3 * w) 2 = nI nb) {t s : Int32} (h : zTb n (μ.2.1 (19 + 3 * w) q) t s q) : F_Person_recalls μ (18 + 3 * w) (nI q) (nI yr) = some (if t = 1 ∧ ¬ nI (zkp k nb) < nI yr - s then nI 1 else nI 0) := by
  unfold F_Person_recalls
  simp (disch := first | omega | assumption | exact Or.inl rfl | exact Or.inr rfl | (repeat (first | assumption | apply fr_uI | apply fr_uJ)) ) only [fo_0, fo_1, fo_6, fo_9, fo_13, fo_71, fo_73, fo_P, fo_T, fo_S, gI_0, gI_1, gI_6, gI_9, gI_13, gI_71, gI_73, gI_P, gI_T, gI_S, gR_0_0, gR_0_1, gR_0_3, gR_0_4, gR_0_7, gR_0_8, gR_0_9, gR_0_10, gR_0_11, gR_1_2, gR_6_1, gR_6_2, gR_9_2, gR_9_3, gR_9_4, gR_13_1, gR_13_2, gR_13_3, gR_71_1, gR_73_2, gR_73_3, gR_73_5, gR_73_6, gR_73_7, gR_73_8, gR_73_9, gR_73_11, gR_73_12, gR_73_13, gR_73_14, gR_73_18, gR_73_19, gR_73_20, gR_73_29, gR_73_30, gR_73_31, gR_73_32, gR_73_33, gR_73_34, gR_73_35, gR_73_45, gR_73_46, gR_73_47, gR_73_48, gR_73_49, gR_73_50, gR_73_51, gR_73_52, gR_P_5, gR_P_8, gR_T_0, gR_T_2, gR_T_3, gR_S_2, pI_0, pI_1, pI_6, pI_9, pI_13, pI_71, pI_73, pI_P, pI_T, pI_S, aR_3, aR_4, aR_17, aI_P_5, aI_P_8, aI_T_0, aI_T_2, aI_T_3, aI_S_2, aI_2, aI_5, aI_7, aI_8, aI_10, aI_11, aI_12, aI_14, aI_15, aI_72, aI_74, aI_75, aI_76, aI_77, aI_78, aI_79, aI_80, aI_81, aI_82, aI_83, aI_84, aI_85, aI_86, aI_87, aI_88, aI_89, aI_90, aI_91, aI_92, aI_93, aI_94, aI_95, aI_96, aI_97, aI_98, aI_99, aI_100, aI_101, aI_102, aI_103, sI_P_5, sI_P_8, sI_T_0, sI_T_2, sI_T_3, sI_S_2, sI_2, sI_5, sI_7, sI_8, sI_10, sI_11, sI_12, sI_14, sI_15, sI_72, sI_75, sI_76, sI_77, sI_78, sI_79, sI_80, sI_81, sI_84, sI_85, sI_86, sI_87, sI_89, sI_90, sI_91, sI_92, sI_93, sI_94, sI_95, sI_98, sI_99, sI_100, sI_101, sI_102, sI_103, aJ_16, sJ_16, zk_some, zb_some, zlet_eq, zjn1_eq, zjn2_eq, zjn3_eq, zjn4_eq, zjn5_eq, zjn6_eq, zjn7_eq, ite_true, ite_false, reduceIte, Nat.reduceEqDiff, and_true, true_and, false_and, and_false, reduceCtorEq, eq_self, X_keeps hf hw hk hk6 hnb]
  rcases h with ⟨h1, h2⟩ | ⟨h1, h2, h3, h4⟩
  · rw [h2, h1]; rfl
  · rw [h2, h1]
    obtain ⟨v, hv, ev, -⟩ := zRg_ex h3
    rw [ev, if_neg (nI_n1 (by omega))]
    by_cases hc : nI (zkp k nb) < nI yr - nI v
    · rw [if_pos hc, if_neg (fun z => z.2 hc)]; rfl
    · rw [if_neg hc, if_pos ⟨rfl, hc⟩]; rfl
theorem M_yearsOf {w q : Nat} (hf : zFr μ) (hw : w < 7) (hq : q < 6) (hy : μ.2.1 73 10 = nI yr) : F_M_yearsOf μ 73 (nI w) (nI q) = some (zsn yr (μ.2.1 82 (6 * w + q)) (μ.2.1 81 (6 * w + q))) := by
  unfold F_M_yearsOf zsn
  simp (disch := first | omega | assumption | exact Or.inl rfl | exact Or.inr rfl | (repeat (first | assumption | apply fr_uI | apply fr_uJ)) ) only [show (6 : Int32) = nI 6 from rfl, pk_mul, nI_add, fo_0, fo_1, fo_6, fo_9, fo_13, fo_71, fo_73, fo_P, fo_T, fo_S, gI_0, gI_1, gI_6, gI_9, gI_13, gI_71, gI_73, gI_P, gI_T, gI_S, gR_0_0, gR_0_1, gR_0_3, gR_0_4, gR_0_7, gR_0_8, gR_0_9, gR_0_10, gR_0_11, gR_1_2, gR_6_1, gR_6_2, gR_9_2, gR_9_3, gR_9_4, gR_13_1, gR_13_2, gR_13_3, gR_71_1, gR_73_2, gR_73_3, gR_73_5, gR_73_6, gR_73_7, gR_73_8, gR_73_9, gR_73_11, gR_73_12, gR_73_13, gR_73_14, gR_73_18, gR_73_19, gR_73_20, gR_73_29, gR_73_30, gR_73_31, gR_73_32, gR_73_33, gR_73_34, gR_73_35, gR_73_45, gR_73_46, gR_73_47, gR_73_48, gR_73_49, gR_73_50, gR_73_51, gR_73_52, gR_P_5, gR_P_8, gR_T_0, gR_T_2, gR_T_3, gR_S_2, pI_0, pI_1, pI_6, pI_9, pI_13, pI_71, pI_73, pI_P, pI_T, pI_S, aR_3, aR_4, aR_17, aI_P_5, aI_P_8, aI_T_0, aI_T_2, aI_T_3, aI_S_2, aI_2, aI_5, aI_7, aI_8, aI_10, aI_11, aI_12, aI_14, aI_15, aI_72, aI_74, aI_75, aI_76, aI_77, aI_78, aI_79, aI_80, aI_81, aI_82, aI_83, aI_84, aI_85, aI_86, aI_87, aI_88, aI_89, aI_90, aI_91, aI_92, aI_93, aI_94, aI_95, aI_96, aI_97, aI_98, aI_99, aI_100, aI_101, aI_102, aI_103, sI_P_5, sI_P_8, sI_T_0, sI_T_2, sI_T_3, sI_S_2, sI_2, sI_5, sI_7, sI_8, sI_10, sI_11, sI_12, sI_14, sI_15, sI_72, sI_75, sI_76, sI_77, sI_78, sI_79, sI_80, sI_81, sI_84, sI_85, sI_86, sI_87, sI_89, sI_90, sI_91, sI_92, sI_93, sI_94, sI_95, sI_98, sI_99, sI_100, sI_101, sI_102, sI_103, aJ_16, sJ_16, zk_some, zb_some, zlet_eq, zjn1_eq, zjn2_eq, zjn3_eq, zjn4_eq, zjn5_eq, zjn6_eq, zjn7_eq, ite_true, ite_false, reduceIte, Nat.reduceEqDiff, and_true, true_and, false_and, and_false, reduceCtorEq, eq_self, hy]
  split <;> rfl
/-- CAN -/
def zcn (yr k o nb : Nat) (barred : Bool) (t s : Int32) (mustq : Bool) (v q : Nat) : Bool := !barred && (q == o || decide (t = 1 ∧ ¬ nI (zkp k nb) < nI yr - s) || ((k == 1 || k == 3) && (q == o + 1 || o == q + 1)) || (k == 3 && !mustq) || (k == 4 && decide (50 < v)))
def b2 (b : Bool) : Int32 := if b then nI 1 else nI 0
theorem b2_0 (b : Bool) : (b2 b = 0) = (b = false) := by cases b <;> decide
theorem b2_1 (b : Bool) : (b2 b = 1) = (b = true) := by cases b <;> decide
theorem b2_if (b : Bool) : (if b = true then nI 1 else nI 0) = b2 b := rfl
theorem b2_p {c : Prop} {_ : Decidable c} : (if c then nI 1 else nI 0) = b2 (decide c) := by unfold b2; by_cases h : c <;> simp [h]
theorem abs_1 : ∀ q, q < 6 → ∀ o, o < 6 → ((zabs (nI q - nI o) = 1) = ((q == o + 1 || o == q + 1) = true)) := by decide
theorem nI_5 {v : Nat} (h : v ≤ 99) : (nI v ≤ 50) = ¬ 50 < v := by
  rw [show (50 : Int32) = nI 50 from rfl]
  simp only [eq_iff_iff, nI_leI (show v < 2 ^ 31 by omega) (show 50 < 2 ^ 31 by decide)]
  omega
theorem sb2 (b : Bool) : (if b = false then (some 1 : Option Int32) else some 0) = some (b2 (!b)) := by cases b <;> rfl
theorem sb3 (b : Bool) : (if b = true then (some 1 : Option Int32) else some 0) = some (b2 b) := by cases b <;> rfl
theorem X_can {w q k o nb b mb v : Nat} (hf : zFr μ) (hw : w < 7) (hq : q < 6) (hk : μ.2.1 (18 + 3 * w) 0 = nI k) (hk6 : k < 6) (ho : μ.2.1 (18 + 3 * w) 1 = nI o) (ho6 : o < 6) (hnb : μ.2.1 (18 + 3 * w) 2 = nI nb) (hb : μ.2.1 (18 + 3 * w) 6 = nI b) (hb6 : b ≤ 63) (hm : μ.2.1 1 1 = nI mb) (hm6 : mb ≤ 63) (hv : μ.2.1 2 q = nI v) (hv9 : v ≤ 99) (hy : μ.2.1 1 3 = nI yr) {t s : Int32} (h : zTb n (μ.2.1 (19 + 3 * w) q) t s q) : F_Person_can μ (18 + 3 * w) (nI q) (some 1) = some (b2 (zcn yr k o nb (b.testBit q) t s (mb.testBit q) v q)) := by
  unfold F_Person_can
  have h1 : F_Person_isA μ (18 + 3 * w) 1 = some (b2 (zisA k 1)) := X_isA (t := 1) hf hw hk hk6 (by decide)
  have hqo : (nI q = nI o) = (q = o) := by simp only [eq_iff_iff]; exact nI_eq (by omega) (by omega)
  have e1 : F_Person_isBarred μ (18 + 3 * w) (nI q) = some (b2 (b.testBit q)) := X_isBarred hf hw hq hb hb6
  have e2 : F_Person_recalls μ (18 + 3 * w) (nI q) (nI yr) = some (b2 (decide (t = 1 ∧ ¬ nI (zkp k nb) < nI yr - s))) := by rw [X_recalls (yr := yr) hf hw hq hk hk6 hnb h, b2_p]
  have e3 : F_Office_needs μ 1 (nI q) = some (b2 (mb.testBit q)) := X_needs hf hq hm hm6
  simp only [fo_P hf hw, zb_some, e1, gI_P hf hw, ho, gI_1 hf, hy, e2, h1, hk, fo_1 hf, e3, gR_1_2 hf, aI_2 hf hq, hv, b2_0, hqo, abs_1 q hq o ho6, nI_5 hv9]
  generalize b.testBit q = B
  generalize mb.testBit q = MB
  unfold zcn
  generalize decide (t = 1 ∧ ¬ nI (zkp k nb) < nI yr - s) = R
  generalize hD : decide (50 < v) = D
  have hD2 : (50 < v) = (D = true) := by rw [← hD]; simp
  simp only [hD2]
  generalize (q == o + 1 || o == q + 1) = AB
  by_cases hqo2 : q = o
  · have : (q == o) = true := by simp [hqo2]
    rw [this]
    rcases (show k = 0 ∨ k = 1 ∨ k = 2 ∨ k = 3 ∨ k = 4 ∨ k = 5 by omega) with rfl | rfl | rfl | rfl | rfl | rfl <;> cases B <;> simp [hqo2] <;> rfl
  · have : (q == o) = false := by simp [hqo2]
    rw [this]
    rcases (show k = 0 ∨ k = 1 ∨ k = 2 ∨ k = 3 ∨ k = 4 ∨ k = 5 by omega) with rfl | rfl | rfl | rfl | rfl | rfl <;> cases B <;> cases R <;> cases AB <;> cases MB <;> cases D <;> simp [hqo2] <;> rfl
theorem b2_z (b : Bool) : zrz (b2 b) (b2 b) = some (b2 b) := by cases b <;> rfl
theorem bes1 : ∀ q, q < 6 → ∀ o, o < 6 → ((nI q = nI o + 1) = (q = o + 1)) := by decide
theorem bes2 : ∀ q, q < 6 → ∀ o, o < 6 → ((nI q = nI o - 1) = (o = q + 1)) := by decide
theorem M_can {w q k o nb v : Nat} {B MB : Bool} (hf : zFr μ) (hw : w < 7) (hq : q < 6) (hk : μ.2.1 76 w = nI k) (hk6 : k < 6) (ho : μ.2.1 77 w = nI o) (ho6 : o < 6) (hnb : μ.2.1 78 w = nI nb) (hb : μ.2.1 83 (6 * w + q) = b2 B) (hm : μ.2.1 74 q = b2 MB) (hv : μ.2.1 75 q = nI v) (hv9 : v ≤ 99) (hy : μ.2.1 73 10 = nI yr) {t s : Int32} (ht : μ.2.1 82 (6 * w + q) = t) (ht01 : t = 0 ∨ t = 1) (hs : μ.2.1 81 (6 * w + q) = s) : F_M_canDo μ 73 (nI w) (nI q) = some (b2 (zcn yr k o nb B t s MB v q)) := by
  unfold F_M_canDo
  have hqo : (nI o = nI q) = (q = o) := by simp only [eq_iff_iff, nI_eq (show o < 2 ^ 31 by omega) (show q < 2 ^ 31 by omega)]; exact eq_comm
  have hij : 6 * w + q < 42 := by omega
  have e2 : F_M_yearsOf μ 73 (nI w) (nI q) = some (zsn yr t s) := by rw [M_yearsOf hf hw hq hy, ht, hs]
  have e3 : F_M_keeps μ 73 (nI w) = some (nI (zkp k nb)) := M_keeps hf hw hk hk6 hnb
  simp only [show (6 : Int32) = nI 6 from rfl, pk_mul, nI_add, gR_73_13 hf, gR_73_6 hf, gR_73_12 hf, gR_73_5 hf, gR_73_2 hf, gR_73_3 hf, zb_some, aI_83 hf hij, aI_77 hf hw, aI_82 hf hij, aI_76 hf hw, aI_74 hf hq, aI_75 hf hq, fo_73 hf, hb, ho, ht, hk, hm, hv, e2, e3, b2_0, hqo, bes1 q hq o ho6, bes2 q hq o ho6, nI_5 hv9, zjn1_eq]
  unfold zcn
  generalize hD : decide (50 < v) = D
  have hD2 : (50 < v) = (D = true) := by rw [← hD]; simp
  simp only [hD2]
  have hR : ∀ f1 f2 : Option Int32, (if t = 0 then f1 else if nI (zkp k nb) < zsn yr t s then f1 else f2) = if decide (t = 1 ∧ ¬ nI (zkp k nb) < nI yr - s) = true then f2 else f1 := by
    intro f1 f2
    rcases ht01 with rfl | rfl
    · rw [if_pos rfl, if_neg]; simp
    · rw [if_neg (by decide)]
      unfold zsn
      rw [if_neg (show ¬ (1 : Int32) = 0 by decide)]
      by_cases hc : nI (zkp k nb) < nI yr - s
      · rw [if_pos hc, if_neg]; simp [hc]
      · rw [if_neg hc, if_pos]; simp [hc]
  rw [hR]
  generalize decide (t = 1 ∧ ¬ nI (zkp k nb) < nI yr - s) = R
  obtain ⟨A, hA1, hA2⟩ : ∃ A : Bool, (q == o) = A ∧ (q = o) = (A = true) := ⟨q == o, rfl, by simp⟩
  obtain ⟨P, hP1, hP2⟩ : ∃ A : Bool, (q == o + 1) = A ∧ (q = o + 1) = (A = true) := ⟨q == o + 1, rfl, by simp⟩
  obtain ⟨Q, hQ1, hQ2⟩ : ∃ A : Bool, (o == q + 1) = A ∧ (o = q + 1) = (A = true) := ⟨o == q + 1, rfl, by simp⟩
  rw [hA1, hP1, hQ1]
  simp only [hA2, hP2, hQ2]
  clear hA1 hA2 hP1 hP2 hQ1 hQ2 hR hqo e2 e3 hD hD2 hb hm hk
  revert A P Q B R MB D
  rcases (show k = 0 ∨ k = 1 ∨ k = 2 ∨ k = 3 ∨ k = 4 ∨ k = 5 by omega) with rfl | rfl | rfl | rfl | rfl | rfl <;> intro A P Q B R MB D <;> cases B <;> cases A <;> cases P <;> cases Q <;> cases R <;> cases MB <;> cases D <;> rfl
end S
