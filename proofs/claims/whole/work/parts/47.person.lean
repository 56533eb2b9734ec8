-- ===== person =====
theorem q_div {r d : Nat} (hr : r < 2 ^ 31) (h0 : 0 < d) (hd : d < 2 ^ 31) : nI r / nI d = nI (r / d) := pk_div hr h0 hd
theorem q_rem {r d : Nat} (hr : r < 2 ^ 31) (h0 : 0 < d) (hd : d < 2 ^ 31) : nI r - nI r / nI d * nI d = nI (r % d) := pk_rem hr h0 hd
theorem q_rem2 {a d : Nat} : nI a - nI (a / d * d) = nI (a % d) := by
  rw [pk_sub (Nat.div_mul_le_self a d)]
  congr 1
  have := Nat.mod_add_div a d
  rw [Nat.mul_comm] at this
  omega
/-- whether one of a kind, with the rest, can come -/
def zone (n : Nat) (k r : Int32) : Prop := (nI 0 ≤ k ∧ k < nI 6) ∧ nI 0 ≤ r ∧ r.toNatClampNeg / 100 < n
def zhX (μ : zS) (p k r : Nat) : zS := zuI (zuI (zuI (zuI (zuI μ (18 + 3 * p) 0 (nI k)) (18 + 3 * p) 1 (nI (r / 100))) (18 + 3 * p) 2 (nI (r / 10 % 10))) (18 + 3 * p) 3 (nI (r % 10))) 0 2 (nI (p + 1))
def zhM (μ : zS) (p k r : Nat) : zS := zuI (zuI (zuI (zuI (zuI μ 76 p (nI k)) 77 p (nI (r / 100))) 78 p (nI (r / 10 % 10))) 79 p (nI (r % 10))) 73 4 (nI (p + 1))
section S
variable {n p yr tx rl tp c : Nat} {μ : zS}
theorem zone_ex {k r : Int32} (h : zone n k r) : ∃ k' r', k' < 6 ∧ r' < 2 ^ 31 ∧ r' / 100 < n ∧ k = nI k' ∧ r = nI r' := by
  obtain ⟨h1, h2, h3⟩ := h
  obtain ⟨k', hk, rfl⟩ := (zcase k (n := 6) (by decide)).resolve_right (fun q => q h1)
  obtain ⟨r', hr, rfl⟩ := nI_of (show ¬ r < 0 from fun q => absurd h2 (Int32.not_le.mpr q))
  rw [nI_clamp hr] at h3
  exact ⟨k', r', hk, hr, h3, rfl, rfl⟩
theorem X_hire_bad {k r : Int32} (hf : zFr μ) (hn : μ.2.1 1 0 = nI n) (h6 : n ≤ 6) (h : ¬ zone n k r) : F_X_hire μ 0 k r = some (-2, μ) := by
  unfold F_X_hire
  by_cases h1 : k < 0
  · rw [if_pos h1]
  rw [if_neg h1]
  by_cases h2 : 6 ≤ k
  · rw [if_pos h2]
  rw [if_neg h2]
  by_cases h3 : r < 0
  · rw [if_pos h3]
  rw [if_neg h3]
  obtain ⟨r', hr, rfl⟩ := nI_of h3
  have h4 : ¬ r' / 100 < n := fun q => h ⟨⟨Int32.not_lt.mp h1, Int32.not_le.mp h2⟩, nI_nn hr, by rw [nI_clamp hr]; exact q⟩
  simp (disch := first | omega | assumption | exact Or.inl rfl | exact Or.inr rfl | (repeat (first | assumption | apply fr_uI | apply fr_uJ)) ) only [fo_0, fo_1, fo_6, fo_9, fo_13, fo_71, fo_73, fo_P, fo_T, fo_S, gI_0, gI_1, gI_6, gI_9, gI_13, gI_71, gI_73, gI_P, gI_T, gI_S, gR_0_0, gR_0_1, gR_0_3, gR_0_4, gR_0_7, gR_0_8, gR_0_9, gR_0_10, gR_0_11, gR_1_2, gR_6_1, gR_6_2, gR_9_2, gR_9_3, gR_9_4, gR_13_1, gR_13_2, gR_13_3, gR_71_1, gR_73_2, gR_73_3, gR_73_5, gR_73_6, gR_73_7, gR_73_8, gR_73_9, gR_73_11, gR_73_12, gR_73_13, gR_73_14, gR_73_18, gR_73_19, gR_73_20, gR_73_29, gR_73_30, gR_73_31, gR_73_32, gR_73_33, gR_73_34, gR_73_35, gR_73_45, gR_73_46, gR_73_47, gR_73_48, gR_73_49, gR_73_50, gR_73_51, gR_73_52, gR_P_5, gR_P_8, gR_T_0, gR_T_2, gR_T_3, gR_S_2, pI_0, pI_1, pI_6, pI_9, pI_13, pI_71, pI_73, pI_P, pI_T, pI_S, aR_3, aR_4, aR_17, aI_P_5, aI_P_8, aI_T_0, aI_T_2, aI_T_3, aI_S_2, aI_2, aI_5, aI_7, aI_8, aI_10, aI_11, aI_12, aI_14, aI_15, aI_72, aI_74, aI_75, aI_76, aI_77, aI_78, aI_79, aI_80, aI_81, aI_82, aI_83, aI_84, aI_85, aI_86, aI_87, aI_88, aI_89, aI_90, aI_91, aI_92, aI_93, aI_94, aI_95, aI_96, aI_97, aI_98, aI_99, aI_100, aI_101, aI_102, aI_103, sI_P_5, sI_P_8, sI_T_0, sI_T_2, sI_T_3, sI_S_2, sI_2, sI_5, sI_7, sI_8, sI_10, sI_11, sI_12, sI_14, sI_15, sI_72, sI_75, sI_76, sI_77, sI_78, sI_79, sI_80, sI_81, sI_84, sI_85, sI_86, sI_87, sI_89, sI_90, sI_91, sI_92, sI_93, sI_94, sI_95, sI_98, sI_99, sI_100, sI_101, sI_102, sI_103, aJ_16, sJ_16, zk_some, zb_some, zlet_eq, zjn1_eq, zjn2_eq, zjn3_eq, zjn4_eq, zjn5_eq, zjn6_eq, zjn7_eq, ite_true, ite_false, reduceIte, Nat.reduceEqDiff, and_true, true_and, false_and, and_false, reduceCtorEq, eq_self, X_has hf hn, fa_lit, nI_ltI, nI_leI, nI_eq, nI_add, pk_mul, n_n1, n_sub1, n_shl2, n_and31, n_shr2, n_bit2, Nat.reduceLT, Nat.reduceLeDiff, Nat.reduceAdd, Nat.reduceMul, q_div, h4, Nat.zero_le]
theorem X_hire_full {k r : Int32} (hf : zFr μ) (hn : μ.2.1 1 0 = nI n) (h6 : n ≤ 6) (hp : μ.2.1 0 2 = nI 7) (h : zone n k r) : F_X_hire μ 0 k r = some (-4, μ) := by
  obtain ⟨k', r', hk, hr, hrn, rfl, rfl⟩ := zone_ex h
  unfold F_X_hire
  have h1 : ¬ 6 ≤ k' := by omega
  simp (disch := first | omega | assumption | exact Or.inl rfl | exact Or.inr rfl | (repeat (first | assumption | apply fr_uI | apply fr_uJ)) ) only [fo_0, fo_1, fo_6, fo_9, fo_13, fo_71, fo_73, fo_P, fo_T, fo_S, gI_0, gI_1, gI_6, gI_9, gI_13, gI_71, gI_73, gI_P, gI_T, gI_S, gR_0_0, gR_0_1, gR_0_3, gR_0_4, gR_0_7, gR_0_8, gR_0_9, gR_0_10, gR_0_11, gR_1_2, gR_6_1, gR_6_2, gR_9_2, gR_9_3, gR_9_4, gR_13_1, gR_13_2, gR_13_3, gR_71_1, gR_73_2, gR_73_3, gR_73_5, gR_73_6, gR_73_7, gR_73_8, gR_73_9, gR_73_11, gR_73_12, gR_73_13, gR_73_14, gR_73_18, gR_73_19, gR_73_20, gR_73_29, gR_73_30, gR_73_31, gR_73_32, gR_73_33, gR_73_34, gR_73_35, gR_73_45, gR_73_46, gR_73_47, gR_73_48, gR_73_49, gR_73_50, gR_73_51, gR_73_52, gR_P_5, gR_P_8, gR_T_0, gR_T_2, gR_T_3, gR_S_2, pI_0, pI_1, pI_6, pI_9, pI_13, pI_71, pI_73, pI_P, pI_T, pI_S, aR_3, aR_4, aR_17, aI_P_5, aI_P_8, aI_T_0, aI_T_2, aI_T_3, aI_S_2, aI_2, aI_5, aI_7, aI_8, aI_10, aI_11, aI_12, aI_14, aI_15, aI_72, aI_74, aI_75, aI_76, aI_77, aI_78, aI_79, aI_80, aI_81, aI_82, aI_83, aI_84, aI_85, aI_86, aI_87, aI_88, aI_89, aI_90, aI_91, aI_92, aI_93, aI_94, aI_95, aI_96, aI_97, aI_98, aI_99, aI_100, aI_101, aI_102, aI_103, sI_P_5, sI_P_8, sI_T_0, sI_T_2, sI_T_3, sI_S_2, sI_2, sI_5, sI_7, sI_8, sI_10, sI_11, sI_12, sI_14, sI_15, sI_72, sI_75, sI_76, sI_77, sI_78, sI_79, sI_80, sI_81, sI_84, sI_85, sI_86, sI_87, sI_89, sI_90, sI_91, sI_92, sI_93, sI_94, sI_95, sI_98, sI_99, sI_100, sI_101, sI_102, sI_103, aJ_16, sJ_16, zk_some, zb_some, zlet_eq, zjn1_eq, zjn2_eq, zjn3_eq, zjn4_eq, zjn5_eq, zjn6_eq, zjn7_eq, ite_true, ite_false, reduceIte, Nat.reduceEqDiff, and_true, true_and, false_and, and_false, reduceCtorEq, eq_self, X_has hf hn, fa_lit, nI_ltI, nI_leI, nI_eq, nI_add, pk_mul, n_n1, n_sub1, n_shl2, n_and31, n_shr2, n_bit2, Nat.reduceLT, Nat.reduceLeDiff, Nat.reduceAdd, Nat.reduceMul, q_div, Nat.not_lt_zero, h1, Nat.zero_le, hrn, hp]
theorem X_hire_ok {k r : Nat} (hf : zFr μ) (hn : μ.2.1 1 0 = nI n) (h6 : n ≤ 6) (hp : μ.2.1 0 2 = nI p) (hp7 : p < 7) (hk : k < 6) (hr : r < 2 ^ 31) (hrn : r / 100 < n) : F_X_hire μ 0 (nI k) (nI r) = some (nI p, zhX μ p k r) := by
  unfold F_X_hire F_Person_become zhX
  have h1 : ¬ 6 ≤ k := by omega
  have h2 : r / 10 < 2 ^ 31 := by omega
  have h3 : ∀ q, ¬ 0 = 18 + 3 * q := fun q => by omega
  simp (disch := first | omega | assumption | exact Or.inl rfl | exact Or.inr rfl | (repeat (first | assumption | apply fr_uI | apply fr_uJ)) ) only [fo_0, fo_1, fo_6, fo_9, fo_13, fo_71, fo_73, fo_P, fo_T, fo_S, gI_0, gI_1, gI_6, gI_9, gI_13, gI_71, gI_73, gI_P, gI_T, gI_S, gR_0_0, gR_0_1, gR_0_3, gR_0_4, gR_0_7, gR_0_8, gR_0_9, gR_0_10, gR_0_11, gR_1_2, gR_6_1, gR_6_2, gR_9_2, gR_9_3, gR_9_4, gR_13_1, gR_13_2, gR_13_3, gR_71_1, gR_73_2, gR_73_3, gR_73_5, gR_73_6, gR_73_7, gR_73_8, gR_73_9, gR_73_11, gR_73_12, gR_73_13, gR_73_14, gR_73_18, gR_73_19, gR_73_20, gR_73_29, gR_73_30, gR_73_31, gR_73_32, gR_73_33, gR_73_34, gR_73_35, gR_73_45, gR_73_46, gR_73_47, gR_73_48, gR_73_49, gR_73_50, gR_73_51, gR_73_52, gR_P_5, gR_P_8, gR_T_0, gR_T_2, gR_T_3, gR_S_2, pI_0, pI_1, pI_6, pI_9, pI_13, pI_71, pI_73, pI_P, pI_T, pI_S, aR_3, aR_4, aR_17, aI_P_5, aI_P_8, aI_T_0, aI_T_2, aI_T_3, aI_S_2, aI_2, aI_5, aI_7, aI_8, aI_10, aI_11, aI_12, aI_14, aI_15, aI_72, aI_74, aI_75, aI_76, aI_77, aI_78, aI_79, aI_80, aI_81, aI_82, aI_83, aI_84, aI_85, aI_86, aI_87, aI_88, aI_89, aI_90, aI_91, aI_92, aI_93, aI_94, aI_95, aI_96, aI_97, aI_98, aI_99, aI_100, aI_101, aI_102, aI_103, sI_P_5, sI_P_8, sI_T_0, sI_T_2, sI_T_3, sI_S_2, sI_2, sI_5, sI_7, sI_8, sI_10, sI_11, sI_12, sI_14, sI_15, sI_72, sI_75, sI_76, sI_77, sI_78, sI_79, sI_80, sI_81, sI_84, sI_85, sI_86, sI_87, sI_89, sI_90, sI_91, sI_92, sI_93, sI_94, sI_95, sI_98, sI_99, sI_100, sI_101, sI_102, sI_103, aJ_16, sJ_16, zk_some, zb_some, zlet_eq, zjn1_eq, zjn2_eq, zjn3_eq, zjn4_eq, zjn5_eq, zjn6_eq, zjn7_eq, ite_true, ite_false, reduceIte, Nat.reduceEqDiff, and_true, true_and, false_and, and_false, reduceCtorEq, eq_self, X_has hf hn, fa_lit, nI_ltI, nI_leI, nI_eq, nI_add, pk_mul, n_n1, n_sub1, n_shl2, n_and31, n_shr2, n_bit2, Nat.reduceLT, Nat.reduceLeDiff, Nat.reduceAdd, Nat.reduceMul, q_div, q_rem2, Nat.not_lt_zero, h1, Nat.zero_le, hrn, hp, hp7, uI_at, h3]
theorem M_one_ok {k r : Int32} (hf : zFr μ) (hn : μ.2.1 73 1 = nI n) (h6 : n ≤ 6) : (zone n k r → F_M_isOne μ 73 k r = some (nI 1)) ∧ (¬ zone n k r → F_M_isOne μ 73 k r = some (nI 0)) := by
  unfold F_M_isOne
  rw [M_inL μ k 5 (by decide) (z := 5) rfl]
  constructor
  · intro h
    rw [if_pos h.1]
    obtain ⟨k', r', hk, hr, hrn, rfl, rfl⟩ := zone_ex h
    simp (disch := first | omega | assumption | exact Or.inl rfl | exact Or.inr rfl | (repeat (first | assumption | apply fr_uI | apply fr_uJ)) ) only [fo_0, fo_1, fo_6, fo_9, fo_13, fo_71, fo_73, fo_P, fo_T, fo_S, gI_0, gI_1, gI_6, gI_9, gI_13, gI_71, gI_73, gI_P, gI_T, gI_S, gR_0_0, gR_0_1, gR_0_3, gR_0_4, gR_0_7, gR_0_8, gR_0_9, gR_0_10, gR_0_11, gR_1_2, gR_6_1, gR_6_2, gR_9_2, gR_9_3, gR_9_4, gR_13_1, gR_13_2, gR_13_3, gR_71_1, gR_73_2, gR_73_3, gR_73_5, gR_73_6, gR_73_7, gR_73_8, gR_73_9, gR_73_11, gR_73_12, gR_73_13, gR_73_14, gR_73_18, gR_73_19, gR_73_20, gR_73_29, gR_73_30, gR_73_31, gR_73_32, gR_73_33, gR_73_34, gR_73_35, gR_73_45, gR_73_46, gR_73_47, gR_73_48, gR_73_49, gR_73_50, gR_73_51, gR_73_52, gR_P_5, gR_P_8, gR_T_0, gR_T_2, gR_T_3, gR_S_2, pI_0, pI_1, pI_6, pI_9, pI_13, pI_71, pI_73, pI_P, pI_T, pI_S, aR_3, aR_4, aR_17, aI_P_5, aI_P_8, aI_T_0, aI_T_2, aI_T_3, aI_S_2, aI_2, aI_5, aI_7, aI_8, aI_10, aI_11, aI_12, aI_14, aI_15, aI_72, aI_74, aI_75, aI_76, aI_77, aI_78, aI_79, aI_80, aI_81, aI_82, aI_83, aI_84, aI_85, aI_86, aI_87, aI_88, aI_89, aI_90, aI_91, aI_92, aI_93, aI_94, aI_95, aI_96, aI_97, aI_98, aI_99, aI_100, aI_101, aI_102, aI_103, sI_P_5, sI_P_8, sI_T_0, sI_T_2, sI_T_3, sI_S_2, sI_2, sI_5, sI_7, sI_8, sI_10, sI_11, sI_12, sI_14, sI_15, sI_72, sI_75, sI_76, sI_77, sI_78, sI_79, sI_80, sI_81, sI_84, sI_85, sI_86, sI_87, sI_89, sI_90, sI_91, sI_92, sI_93, sI_94, sI_95, sI_98, sI_99, sI_100, sI_101, sI_102, sI_103, aJ_16, sJ_16, zk_some, zb_some, zlet_eq, zjn1_eq, zjn2_eq, zjn3_eq, zjn4_eq, zjn5_eq, zjn6_eq, zjn7_eq, ite_true, ite_false, reduceIte, Nat.reduceEqDiff, and_true, true_and, false_and, and_false, reduceCtorEq, eq_self, fa_lit, nI_ltI, nI_leI, nI_eq, nI_add, pk_mul, n_n1, n_sub1, n_shl2, n_and31, n_shr2, n_bit2, Nat.reduceLT, Nat.reduceLeDiff, Nat.reduceAdd, Nat.reduceMul, q_div, Nat.not_lt_zero, M_isPost hf hn h6, hrn, Nat.zero_le]
  · intro h
    by_cases h1 : nI 0 ≤ k ∧ k < nI 6
    · rw [if_pos h1]
      by_cases h3 : r < 0
      · rw [zb_some, if_neg (show ¬ nI 1 = 0 by decide), if_pos h3]
        rfl
      · obtain ⟨r', hr, rfl⟩ := nI_of h3
        have h4 : ¬ r' / 100 < n := fun q => h ⟨h1, nI_nn hr, by rw [nI_clamp hr]; exact q⟩
        simp (disch := first | omega | assumption | exact Or.inl rfl | exact Or.inr rfl | (repeat (first | assumption | apply fr_uI | apply fr_uJ)) ) only [fo_0, fo_1, fo_6, fo_9, fo_13, fo_71, fo_73, fo_P, fo_T, fo_S, gI_0, gI_1, gI_6, gI_9, gI_13, gI_71, gI_73, gI_P, gI_T, gI_S, gR_0_0, gR_0_1, gR_0_3, gR_0_4, gR_0_7, gR_0_8, gR_0_9, gR_0_10, gR_0_11, gR_1_2, gR_6_1, gR_6_2, gR_9_2, gR_9_3, gR_9_4, gR_13_1, gR_13_2, gR_13_3, gR_71_1, gR_73_2, gR_73_3, gR_73_5, gR_73_6, gR_73_7, gR_73_8, gR_73_9, gR_73_11, gR_73_12, gR_73_13, gR_73_14, gR_73_18, gR_73_19, gR_73_20, gR_73_29, gR_73_30, gR_73_31, gR_73_32, gR_73_33, gR_73_34, gR_73_35, gR_73_45, gR_73_46, gR_73_47, gR_73_48, gR_73_49, gR_73_50, gR_73_51, gR_73_52, gR_P_5, gR_P_8, gR_T_0, gR_T_2, gR_T_3, gR_S_2, pI_0, pI_1, pI_6, pI_9, pI_13, pI_71, pI_73, pI_P, pI_T, pI_S, aR_3, aR_4, aR_17, aI_P_5, aI_P_8, aI_T_0, aI_T_2, aI_T_3, aI_S_2, aI_2, aI_5, aI_7, aI_8, aI_10, aI_11, aI_12, aI_14, aI_15, aI_72, aI_74, aI_75, aI_76, aI_77, aI_78, aI_79, aI_80, aI_81, aI_82, aI_83, aI_84, aI_85, aI_86, aI_87, aI_88, aI_89, aI_90, aI_91, aI_92, aI_93, aI_94, aI_95, aI_96, aI_97, aI_98, aI_99, aI_100, aI_101, aI_102, aI_103, sI_P_5, sI_P_8, sI_T_0, sI_T_2, sI_T_3, sI_S_2, sI_2, sI_5, sI_7, sI_8, sI_10, sI_11, sI_12, sI_14, sI_15, sI_72, sI_75, sI_76, sI_77, sI_78, sI_79, sI_80, sI_81, sI_84, sI_85, sI_86, sI_87, sI_89, sI_90, sI_91, sI_92, sI_93, sI_94, sI_95, sI_98, sI_99, sI_100, sI_101, sI_102, sI_103, aJ_16, sJ_16, zk_some, zb_some, zlet_eq, zjn1_eq, zjn2_eq, zjn3_eq, zjn4_eq, zjn5_eq, zjn6_eq, zjn7_eq, ite_true, ite_false, reduceIte, Nat.reduceEqDiff, and_true, true_and, false_and, and_false, reduceCtorEq, eq_self, fa_lit, nI_ltI, nI_leI, nI_eq, nI_add, pk_mul, n_n1, n_sub1, n_shl2, n_and31, n_shr2, n_bit2, Nat.reduceLT, Nat.reduceLeDiff, Nat.reduceAdd, Nat.reduceMul, q_div, Nat.not_lt_zero, M_isPost hf hn h6, h4, Nat.zero_le]
    · rw [if_neg h1]
      rfl
theorem M_person_bad {k r : Int32} (hf : zFr μ) (hn : μ.2.1 73 1 = nI n) (h6 : n ≤ 6) (h : ¬ zone n k r) : F_M_person μ 73 k r = some (-2, μ) := by
  unfold F_M_person
  simp (disch := first | omega | assumption | exact Or.inl rfl | exact Or.inr rfl | (repeat (first | assumption | apply fr_uI | apply fr_uJ)) ) only [fo_73, zb_some, (M_one_ok hf hn h6).2 h]
  rfl
theorem M_person_full {k r : Int32} (hf : zFr μ) (hn : μ.2.1 73 1 = nI n) (h6 : n ≤ 6) (hp : μ.2.1 73 4 = nI 7) (h : zone n k r) : F_M_person μ 73 k r = some (-4, μ) := by
  unfold F_M_person
  simp (disch := first | omega | assumption | exact Or.inl rfl | exact Or.inr rfl | (repeat (first | assumption | apply fr_uI | apply fr_uJ)) ) only [fo_0, fo_1, fo_6, fo_9, fo_13, fo_71, fo_73, fo_P, fo_T, fo_S, gI_0, gI_1, gI_6, gI_9, gI_13, gI_71, gI_73, gI_P, gI_T, gI_S, gR_0_0, gR_0_1, gR_0_3, gR_0_4, gR_0_7, gR_0_8, gR_0_9, gR_0_10, gR_0_11, gR_1_2, gR_6_1, gR_6_2, gR_9_2, gR_9_3, gR_9_4, gR_13_1, gR_13_2, gR_13_3, gR_71_1, gR_73_2, gR_73_3, gR_73_5, gR_73_6, gR_73_7, gR_73_8, gR_73_9, gR_73_11, gR_73_12, gR_73_13, gR_73_14, gR_73_18, gR_73_19, gR_73_20, gR_73_29, gR_73_30, gR_73_31, gR_73_32, gR_73_33, gR_73_34, gR_73_35, gR_73_45, gR_73_46, gR_73_47, gR_73_48, gR_73_49, gR_73_50, gR_73_51, gR_73_52, gR_P_5, gR_P_8, gR_T_0, gR_T_2, gR_T_3, gR_S_2, pI_0, pI_1, pI_6, pI_9, pI_13, pI_71, pI_73, pI_P, pI_T, pI_S, aR_3, aR_4, aR_17, aI_P_5, aI_P_8, aI_T_0, aI_T_2, aI_T_3, aI_S_2, aI_2, aI_5, aI_7, aI_8, aI_10, aI_11, aI_12, aI_14, aI_15, aI_72, aI_74, aI_75, aI_76, aI_77, aI_78, aI_79, aI_80, aI_81, aI_82, aI_83, aI_84, aI_85, aI_86, aI_87, aI_88, aI_89, aI_90, aI_91, aI_92, aI_93, aI_94, aI_95, aI_96, aI_97, aI_98, aI_99, aI_100, aI_101, aI_102, aI_103, sI_P_5, sI_P_8, sI_T_0, sI_T_2, sI_T_3, sI_S_2, sI_2, sI_5, sI_7, sI_8, sI_10, sI_11, sI_12, sI_14, sI_15, sI_72, sI_75, sI_76, sI_77, sI_78, sI_79, sI_80, sI_81, sI_84, sI_85, sI_86, sI_87, sI_89, sI_90, sI_91, sI_92, sI_93, sI_94, sI_95, sI_98, sI_99, sI_100, sI_101, sI_102, sI_103, aJ_16, sJ_16, zk_some, zb_some, zlet_eq, zjn1_eq, zjn2_eq, zjn3_eq, zjn4_eq, zjn5_eq, zjn6_eq, zjn7_eq, ite_true, ite_false, reduceIte, Nat.reduceEqDiff, and_true, true_and, false_and, and_false, reduceCtorEq, eq_self, fa_lit, nI_ltI, nI_leI, nI_eq, nI_add, pk_mul, n_n1, n_sub1, n_shl2, n_and31, n_shr2, n_bit2, Nat.reduceLT, Nat.reduceLeDiff, Nat.reduceAdd, Nat.reduceMul, (M_one_ok hf hn h6).1 h, hp]
theorem M_person_ok {k r : Nat} (hf : zFr μ) (hn : μ.2.1 73 1 = nI n) (h6 : n ≤ 6) (hp : μ.2.1 73 4 = nI p) (hp7 : p < 7) (hk : k < 6) (hr : r < 2 ^ 31) (hrn : r / 100 < n) : F_M_person μ 73 (nI k) (nI r) = some (nI p, zhM μ p k r) := by
  have h : zone n (nI k) (nI r) := ⟨zc_lt hk (by decide), nI_nn hr, by rw [nI_clamp hr]; exact hrn⟩
  unfold F_M_person zhM
  have h2 : r / 10 < 2 ^ 31 := by omega
  have h7 : ¬ p = 7 := by omega
  simp (disch := first | omega | assumption | exact Or.inl rfl | exact Or.inr rfl | (repeat (first | assumption | apply fr_uI | apply fr_uJ)) ) only [fo_0, fo_1, fo_6, fo_9, fo_13, fo_71, fo_73, fo_P, fo_T, fo_S, gI_0, gI_1, gI_6, gI_9, gI_13, gI_71, gI_73, gI_P, gI_T, gI_S, gR_0_0, gR_0_1, gR_0_3, gR_0_4, gR_0_7, gR_0_8, gR_0_9, gR_0_10, gR_0_11, gR_1_2, gR_6_1, gR_6_2, gR_9_2, gR_9_3, gR_9_4, gR_13_1, gR_13_2, gR_13_3, gR_71_1, gR_73_2, gR_73_3, gR_73_5, gR_73_6, gR_73_7, gR_73_8, gR_73_9, gR_73_11, gR_73_12, gR_73_13, gR_73_14, gR_73_18, gR_73_19, gR_73_20, gR_73_29, gR_73_30, gR_73_31, gR_73_32, gR_73_33, gR_73_34, gR_73_35, gR_73_45, gR_73_46, gR_73_47, gR_73_48, gR_73_49, gR_73_50, gR_73_51, gR_73_52, gR_P_5, gR_P_8, gR_T_0, gR_T_2, gR_T_3, gR_S_2, pI_0, pI_1, pI_6, pI_9, pI_13, pI_71, pI_73, pI_P, pI_T, pI_S, aR_3, aR_4, aR_17, aI_P_5, aI_P_8, aI_T_0, aI_T_2, aI_T_3, aI_S_2, aI_2, aI_5, aI_7, aI_8, aI_10, aI_11, aI_12, aI_14, aI_15, aI_72, aI_74, aI_75, aI_76, aI_77, aI_78, aI_79, aI_80, aI_81, aI_82, aI_83, aI_84, aI_85, aI_86, aI_87, aI_88, aI_89, aI_90, aI_91, aI_92, aI_93, aI_94, aI_95, aI_96, aI_97, aI_98, aI_99, aI_100, aI_101, aI_102, aI_103, sI_P_5, sI_P_8, sI_T_0, sI_T_2, sI_T_3, sI_S_2, sI_2, sI_5, sI_7, sI_8, sI_10, sI_11, sI_12, sI_14, sI_15, sI_72, sI_75, sI_76, sI_77, sI_78, sI_79, sI_80, sI_81, sI_84, sI_85, sI_86, sI_87, sI_89, sI_90, sI_91, sI_92, sI_93, sI_94, sI_95, sI_98, sI_99, sI_100, sI_101, sI_102, sI_103, aJ_16, sJ_16, zk_some, zb_some, zlet_eq, zjn1_eq, zjn2_eq, zjn3_eq, zjn4_eq, zjn5_eq, zjn6_eq, zjn7_eq, ite_true, ite_false, reduceIte, Nat.reduceEqDiff, and_true, true_and, false_and, and_false, reduceCtorEq, eq_self, (M_one_ok hf hn h6).1 h, fa_lit, nI_ltI, nI_leI, nI_eq, nI_add, pk_mul, n_n1, n_sub1, n_shl2, n_and31, n_shr2, n_bit2, Nat.reduceLT, Nat.reduceLeDiff, Nat.reduceAdd, Nat.reduceMul, q_div, q_rem2, hp, h7, uI_at]
theorem zhX_at (μ : zS) (p k r a j : Nat) : (zhX μ p k r).2.1 a j = if a = 0 ∧ j = 2 then nI (p + 1) else if a = 18 + 3 * p ∧ j = 3 then nI (r % 10) else if a = 18 + 3 * p ∧ j = 2 then nI (r / 10 % 10) else if a = 18 + 3 * p ∧ j = 1 then nI (r / 100) else if a = 18 + 3 * p ∧ j = 0 then nI k else μ.2.1 a j := rfl
theorem zhM_at (μ : zS) (p k r a j : Nat) : (zhM μ p k r).2.1 a j = if a = 73 ∧ j = 4 then nI (p + 1) else if a = 79 ∧ j = p then nI (r % 10) else if a = 78 ∧ j = p then nI (r / 10 % 10) else if a = 77 ∧ j = p then nI (r / 100) else if a = 76 ∧ j = p then nI k else μ.2.1 a j := rfl
theorem zhX_off {p k r a j : Nat} (h1 : ¬ (a = 0 ∧ j = 2)) (h2 : ¬ (a = 18 + 3 * p ∧ j ≤ 3)) : (zhX μ p k r).2.1 a j = μ.2.1 a j := by
  rw [zhX_at, if_neg h1, if_neg (by omega), if_neg (by omega), if_neg (by omega), if_neg (by omega)]
theorem zhM_off {p k r a j : Nat} (h1 : ¬ (a = 73 ∧ j = 4)) (h2 : ¬ (76 ≤ a ∧ a ≤ 79 ∧ j = p)) : (zhM μ p k r).2.1 a j = μ.2.1 a j := by
  rw [zhM_at, if_neg h1, if_neg (by omega), if_neg (by omega), if_neg (by omega), if_neg (by omega)]
/-- one more has come, on both sides -/
theorem zSt_hire {k r : Nat} (h : zSt n p yr tx rl tp c μ) (hp7 : p < 7) (hk : k < 6) (hr : r < 2 ^ 31) (hrn : r / 100 < n) : zSt n (p + 1) yr tx rl tp c (zhM (zhX μ p k r) p k r) := by
  obtain ⟨hf, hP, hPe, hAs, hTa, hBa, hYr, hTp, hTx, hIm, hSh, hLt⟩ := h
  refine ⟨hf, ?_⟩
  generalize hμ2 : zhM (zhX μ p k r) p k r = μ2
  have hoff : ∀ a j, ¬ (a = 0 ∧ j = 2) → ¬ (a = 18 + 3 * p ∧ j ≤ 3) → ¬ (a = 73 ∧ j = 4) → ¬ (76 ≤ a ∧ a ≤ 79 ∧ j = p) → μ2.2.1 a j = μ.2.1 a j := by
    intro a j h1 h2 h3 h4
    subst hμ2
    rw [zhM_off h3 h4, zhX_off h1 h2]
  have hPe2 : zPe n (p + 1) μ2.2.1 := by
    obtain ⟨q1, q2, q3, q4⟩ := hPe
    have hn6 := hP.1
    refine ⟨by omega, ?_, ?_, fun w hw hwp => ?_⟩
    · subst hμ2; rw [zhM_off (by omega) (by omega)]; rfl
    · subst hμ2; rfl
    · by_cases hwe : w = p
      · have e0 : μ2.2.1 (18 + 3 * w) 0 = nI k := by subst hμ2; subst hwe; rw [zhM_off (by omega) (by omega), zhX_at]; simp
        have e1 : μ2.2.1 (18 + 3 * w) 1 = nI (r / 100) := by subst hμ2; subst hwe; rw [zhM_off (by omega) (by omega), zhX_at]; simp
        have e2 : μ2.2.1 (18 + 3 * w) 2 = nI (r / 10 % 10) := by subst hμ2; subst hwe; rw [zhM_off (by omega) (by omega), zhX_at]; simp
        have e3 : μ2.2.1 (18 + 3 * w) 3 = nI (r % 10) := by subst hμ2; subst hwe; rw [zhM_off (by omega) (by omega), zhX_at]; simp
        have e76 : μ2.2.1 76 w = nI k := by subst hμ2; subst hwe; rw [zhM_at]; simp
        have e77 : μ2.2.1 77 w = nI (r / 100) := by subst hμ2; subst hwe; rw [zhM_at]; simp
        have e78 : μ2.2.1 78 w = nI (r / 10 % 10) := by subst hμ2; subst hwe; rw [zhM_at]; simp
        have e79 : μ2.2.1 79 w = nI (r % 10) := by subst hμ2; subst hwe; rw [zhM_at]; simp
        rw [e0, e1, e2, e3, e76, e77, e78, e79]
        exact ⟨rfl, zRg_nI (by omega) (by decide), rfl, zRg_nI (by omega) (by decide), by rw [nI_clamp (by omega)]; exact hrn, rfl, zRg_nI (by omega) (by decide), rfl, zRg_nI (by omega) (by decide)⟩
      · have := q4 w hw (by omega)
        rw [hoff (18 + 3 * w) 0 (by omega) (by omega) (by omega) (by omega), hoff (18 + 3 * w) 1 (by omega) (by omega) (by omega) (by omega), hoff (18 + 3 * w) 2 (by omega) (by omega) (by omega) (by omega), hoff (18 + 3 * w) 3 (by omega) (by omega) (by omega) (by omega), hoff 76 w (by omega) (by omega) (by omega) (by omega), hoff 77 w (by omega) (by omega) (by omega) (by omega), hoff 78 w (by omega) (by omega) (by omega) (by omega), hoff 79 w (by omega) (by omega) (by omega) (by omega)]
        exact this
  refine ⟨zP_c hP ?_, hPe2, zAs_m (zAs_c hAs ?_) (Nat.le_refl c) (Nat.le_succ p), zTa_n (zTa_c hTa ?_) (Nat.le_refl n) (Nat.le_succ p), zBa_p (zBa_c hBa ?_) (Nat.le_succ p), zYr_c hYr ?_, zTp_c hTp ?_, zTx_c hTx ?_, zIm_m (zIm_c hIm ?_) (Nat.le_refl n) (Nat.le_succ p) (Nat.le_refl tx) (Nat.le_refl c), zSh_c hSh ?_, zLt_c hLt ?_⟩
  all_goals (intro a k hak; exact hoff a k (by omega) (by omega) (by omega) (by omega))
theorem K_person (h : zSt n p yr tx rl tp c μ) (k r : Int32) : zOk c (fun u => F_X_person u 0 k r) (fun u => F_M_person u 73 k r) μ := by
  obtain ⟨hf, hP, hPe, -⟩ := id h
  have hX : ∀ o, F_X_hire μ 0 k r = some o → F_X_person μ 0 k r = some o := by
    intro o ho
    unfold F_X_person
    simp (disch := first | omega | assumption | exact Or.inl rfl | exact Or.inr rfl | (repeat (first | assumption | apply fr_uI | apply fr_uJ)) ) only [fo_0, zb_some, ho]
    rfl
  by_cases hz : zone n k r
  · by_cases hp7 : p = 7
    · subst hp7
      exact zOk_same h (hX _ (X_hire_full hf hP.2.1 hP.1 hPe.2.1 hz)) (M_person_full hf hP.2.2.1 hP.1 hPe.2.2.1 hz)
    · obtain ⟨k', r', hk, hr, hrn, rfl, rfl⟩ := zone_ex hz
      have hp8 : p < 7 := by have := hPe.1; omega
      refine ⟨_, _, _, hX _ (X_hire_ok hf hP.2.1 hP.1 hPe.2.1 hp8 hk hr hrn), hf, M_person_ok (μ := zhX μ p k' r') hf ?_ hP.1 ?_ hp8 hk hr hrn, n, p + 1, yr, tx, rl, tp, zSt_m (zSt_hire h hp8 hk hr hrn)⟩
      · rw [zhX_off (by omega) (by omega)]; exact hP.2.2.1
      · rw [zhX_off (by omega) (by omega)]; exact hPe.2.2.1
  · exact zOk_same h (hX _ (X_hire_bad hf hP.2.1 hP.1 hz)) (M_person_bad hf hP.2.2.1 hP.1 hz)
end S
