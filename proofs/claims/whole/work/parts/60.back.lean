-- ===== back =====
section S
variable {n p yr tx rl tp c : Nat} {μ : zS}
def zbkX (μ : zS) (ip iy ir : Nat) : zS := zuI (zuI (zrs μ ip) 1 3 (nI iy)) 0 6 (nI ir)
def zbkM0 (μ : zS) (iy ir : Nat) : zS := zuI (zuI μ 73 10 (nI iy)) 73 17 (nI ir)
def zbkM (μ : zS) (ip iy ir : Nat) : zS := zfg 80 0 (μ.2.1 98) (ztri 81 82 83 (μ.2.1 95) (μ.2.1 96) (μ.2.1 97) (zbkM0 μ iy ir) (6 * ip)) ip
theorem X_back_ok {ip iy ir : Nat} (hf : zFr μ) (h1 : μ.2.1 0 12 = 1) (hp : μ.2.1 0 15 = nI ip) (hp7 : ip ≤ 7) (hy : μ.2.1 0 13 = nI iy) (hr : μ.2.1 0 14 = nI ir) : F_X_back μ 0 = some (nI iy, zbkX μ ip iy ir) := by
  unfold F_X_back
  rw [gI_0 hf, zb_some, h1, if_neg (show ¬ (1 : Int32) = 0 by decide)]
  have o1 : ∀ i, (zrs μ i).2.1 0 15 = nI ip := fun i => by rw [zrs_off i (by omega)]; exact hp
  have o2 : ∀ i, (zrs μ i).2.1 0 13 = nI iy := fun i => by rw [zrs_off i (by omega)]; exact hy
  have o3 : ∀ i, (zrs μ i).2.1 0 14 = nI ir := fun i => by rw [zrs_off i (by omega)]; exact hr
  refine fix2_t ip (fun i => zrs μ i) (fun i => nI i) ?_ ?_ (zFU_lt (by omega))
  · intro r i hi
    have hfi := zrs_fr hf i
    rw [gI_0 hfi, zb_some, o1, if_neg (show ¬ nI ip ≤ nI i by rw [nI_leI (by omega) (by omega)]; omega), gR_0_1 hfi, zb_some, aR_3 hfi (by omega), zb_some, fo_P hfi (by omega), zb_some, X_restore hfi (by omega), zb_some, show nI i + 1 = nI (i + 1) from nI_add i 1]
    rfl
  · intro r
    have hfi := zrs_fr hf ip
    unfold zbkX
    rw [gI_0 hfi, zb_some, o1, if_pos (Int32.le_refl _)]
    simp (disch := first | omega | assumption | exact Or.inl rfl | exact Or.inr rfl | (repeat (first | assumption | apply fr_uI | apply fr_uJ)) ) only [fo_0, fo_1, fo_6, fo_9, fo_13, fo_71, fo_73, fo_P, fo_T, fo_S, gI_0, gI_1, gI_6, gI_9, gI_13, gI_71, gI_73, gI_P, gI_T, gI_S, gR_0_0, gR_0_1, gR_0_3, gR_0_4, gR_0_7, gR_0_8, gR_0_9, gR_0_10, gR_0_11, gR_1_2, gR_6_1, gR_6_2, gR_9_2, gR_9_3, gR_9_4, gR_13_1, gR_13_2, gR_13_3, gR_71_1, gR_73_2, gR_73_3, gR_73_5, gR_73_6, gR_73_7, gR_73_8, gR_73_9, gR_73_11, gR_73_12, gR_73_13, gR_73_14, gR_73_18, gR_73_19, gR_73_20, gR_73_29, gR_73_30, gR_73_31, gR_73_32, gR_73_33, gR_73_34, gR_73_35, gR_73_45, gR_73_46, gR_73_47, gR_73_48, gR_73_49, gR_73_50, gR_73_51, gR_73_52, gR_P_5, gR_P_8, gR_T_0, gR_T_2, gR_T_3, gR_S_2, pI_0, pI_1, pI_6, pI_9, pI_13, pI_71, pI_73, pI_P, pI_T, pI_S, aR_3, aR_4, aR_17, aI_P_5, aI_P_8, aI_T_0, aI_T_2, aI_T_3, aI_S_2, aI_2, aI_5, aI_7, aI_8, aI_10, aI_11, aI_12, aI_14, aI_15, aI_72, aI_74, aI_75, aI_76, aI_77, aI_78, aI_79, aI_80, aI_81, aI_82, aI_83, aI_84, aI_85, aI_86, aI_87, aI_88, aI_89, aI_90, aI_91, aI_92, aI_93, aI_94, aI_95, aI_96, aI_97, aI_98, aI_99, aI_100, aI_101, aI_102, aI_103, sI_P_5, sI_P_8, sI_T_0, sI_T_2, sI_T_3, sI_S_2, sI_2, sI_5, sI_7, sI_8, sI_10, sI_11, sI_12, sI_14, sI_15, sI_72, sI_75, sI_76, sI_77, sI_78, sI_79, sI_80, sI_81, sI_84, sI_85, sI_86, sI_87, sI_89, sI_90, sI_91, sI_92, sI_93, sI_94, sI_95, sI_98, sI_99, sI_100, sI_101, sI_102, sI_103, aJ_16, sJ_16, zk_some, zb_some, zlet_eq, zjn1_eq, zjn2_eq, zjn3_eq, zjn4_eq, zjn5_eq, zjn6_eq, zjn7_eq, ite_true, ite_false, reduceIte, Nat.reduceEqDiff, and_true, true_and, false_and, and_false, reduceCtorEq, eq_self, uI_at, o1, o2, o3]
theorem M_back_ok {ip iy ir : Nat} (hf : zFr μ) (h1 : μ.2.1 73 41 = 1) (hp : μ.2.1 73 42 = nI ip) (hp7 : ip ≤ 7) (hy : μ.2.1 73 43 = nI iy) (hr : μ.2.1 73 44 = nI ir) (h82 : ∀ k, k < 6 * ip → μ.2.1 96 k = 0 ∨ μ.2.1 96 k = 1) (h83 : ∀ k, k < 6 * ip → μ.2.1 97 k = 0 ∨ μ.2.1 97 k = 1) : F_M_back μ 73 = some (nI iy, zbkM μ ip iy ir) := by
  unfold F_M_back zbkM
  rw [gI_73 hf, zb_some, h1, if_neg (show ¬ (1 : Int32) = 0 by decide), gI_73 hf, zb_some, hy, pI_73 hf, zb_some, gI_73 (fr_uI hf), zb_some, uI_at, if_neg (by omega), hr, pI_73 (fr_uI hf), zb_some]
  show zfix2 _ zFU (zbkM0 μ iy ir) 0 = _
  have hf0 : zFr (zbkM0 μ iy ir) := fr_uI (fr_uI hf)
  have off0 : ∀ a k, a ≠ 73 → (zbkM0 μ iy ir).2.1 a k = μ.2.1 a k := by
    intro a k ha
    unfold zbkM0
    rw [uI_at, uI_at, if_neg (by omega), if_neg (by omega)]
  have hp0 : (zbkM0 μ iy ir).2.1 73 42 = nI ip := hp
  have hy0 : (zbkM0 μ iy ir).2.1 73 10 = nI iy := rfl
  generalize zbkM0 μ iy ir = μ0 at hf0 off0 hp0 hy0 ⊢
  have oT : ∀ i a k, ¬ (81 ≤ a ∧ a ≤ 83) → (ztri 81 82 83 (μ.2.1 95) (μ.2.1 96) (μ.2.1 97) μ0 i).2.1 a k = μ0.2.1 a k := by
    intro i a k ha
    rw [ztri_at (by decide) (by decide) (by decide), if_neg (by omega), if_neg (by omega), if_neg (by omega)]
  refine fix2_t (6 * ip) (fun i => ztri 81 82 83 (μ.2.1 95) (μ.2.1 96) (μ.2.1 97) μ0 i) (fun i => nI i) ?_ ?_ (zFU_lt (by omega))
  · intro r i hi
    have hfi := ztri_fr (A := 81) (B := 82) (C := 83) (f := μ.2.1 95) (g := μ.2.1 96) (h := μ.2.1 97) hf0 i
    have hi42 : i < 42 := by omega
    have w82 := h82 i hi
    have w83 := h83 i hi
    rw [gI_73 hfi, zb_some, oT i 73 42 (by omega), hp0, show (6 : Int32) * nI ip = nI (6 * ip) from pk_mul 6 ip, if_neg (show ¬ nI (6 * ip) ≤ nI i by rw [nI_leI (by omega) (by omega)]; omega)]
    rw [gR_73_11 hfi, zb_some, gR_73_45 hfi, zb_some, aI_95 hfi hi42, zb_some, sI_81 hfi hi42, zb_some, oT i 95 i (by omega), off0 _ _ (by decide)]
    rw [gR_73_12 (fr_uI hfi), zb_some, gR_73_46 (fr_uI hfi), zb_some, aI_96 (fr_uI hfi) hi42, zb_some, uI_at, if_neg (by omega), oT i 96 i (by omega), off0 _ _ (by decide), sZ_82 (fr_uI hfi) hi42 w82, zb_some]
    rw [gR_73_13 (fr_uI (fr_uI hfi)), zb_some, gR_73_47 (fr_uI (fr_uI hfi)), zb_some, aI_97 (fr_uI (fr_uI hfi)) hi42, zb_some, uI_at, if_neg (by omega), uI_at, if_neg (by omega), oT i 97 i (by omega), off0 _ _ (by decide), sZ_83 (fr_uI (fr_uI hfi)) hi42 w83, zb_some, show nI i + 1 = nI (i + 1) from nI_add i 1]
    rfl
  · intro r
    have hf1 := ztri_fr (A := 81) (B := 82) (C := 83) (f := μ.2.1 95) (g := μ.2.1 96) (h := μ.2.1 97) hf0 (6 * ip)
    have oT1 := oT (6 * ip)
    generalize ztri 81 82 83 (μ.2.1 95) (μ.2.1 96) (μ.2.1 97) μ0 (6 * ip) = μ1 at hf1 oT1 ⊢
    rw [gI_73 hf1, zb_some, oT1 73 42 (by omega), hp0, show (6 : Int32) * nI ip = nI (6 * ip) from pk_mul 6 ip, if_pos (Int32.le_refl _)]
    refine fix2_t ip (fun i => zfg 80 0 (μ.2.1 98) μ1 i) (fun i => nI i) ?_ ?_ (zFU_lt (by omega))
    · intro r i hi
      have hfi := zfg_fr (A := 80) (b := 0) (f := μ.2.1 98) hf1 i
      have z42 : (zfg 80 0 (μ.2.1 98) μ1 i).2.1 73 42 = nI ip := by rw [zfg_at, if_neg (by omega), oT1 73 42 (by omega), hp0]
      rw [gI_73 hfi, zb_some, z42, if_neg (show ¬ nI ip ≤ nI i by rw [nI_leI (by omega) (by omega)]; omega)]
      rw [gR_73_9 hfi, zb_some, gR_73_48 hfi, zb_some, aI_98 hfi (by omega), zb_some, sI_80 hfi (by omega), zb_some, zfg_at, if_neg (by omega), oT1 98 i (by omega), off0 _ _ (by decide), show nI i + 1 = nI (i + 1) from nI_add i 1]
      show r (zuI _ _ i _) _ = r (zuI _ _ (0 + i) _) _
      rw [Nat.zero_add]
    · intro r
      have hfi := zfg_fr (A := 80) (b := 0) (f := μ.2.1 98) hf1 ip
      have z42 : (zfg 80 0 (μ.2.1 98) μ1 ip).2.1 73 42 = nI ip := by rw [zfg_at, if_neg (by omega), oT1 73 42 (by omega), hp0]
      have z10 : (zfg 80 0 (μ.2.1 98) μ1 ip).2.1 73 10 = nI iy := by rw [zfg_at, if_neg (by omega), oT1 73 10 (by omega), hy0]
      rw [gI_73 hfi, zb_some, z42, if_pos (Int32.le_refl _), gI_73 hfi, zb_some, z10]
theorem K_back (h : zSt n p yr tx rl tp c μ) : zOk c (fun u => F_X_back u 0) (fun u => F_M_back u 73) μ := by
  obtain ⟨hf, hP, hPe, hAs, hTa, hBa, hYr, hTp, hTx, hIm, hSh, hLt⟩ := id h
  have hp7 := hPe.1
  obtain ⟨x1, x2, x3, x4, x5, x6, x7, x8⟩ := id hTx
  obtain ⟨i1, i2, i3⟩ := id hIm
  rcases i2 with i2 | i2
  · refine zOk_same (v := -3) h ?_ ?_
    · unfold F_X_back
      rw [gI_0 hf, zb_some, i2]; rfl
    · unfold F_M_back
      rw [gI_73 hf, zb_some, ← i1, i2]; rfl
  obtain ⟨j1, j2, j3, j4, j5, j6, j7, j8, j9⟩ := i3 i2
  obtain ⟨iy, hiy, eiy, -⟩ := zRg_ex j2
  obtain ⟨ir, hir, eir, cir⟩ := zRg_ex j4
  obtain ⟨ip, hip, eip, cip⟩ := zRg_ex j7
  rw [cir] at j5
  rw [cip] at j8 j9
  have hX := X_back_ok (ip := ip) (iy := iy) (ir := ir) hf i2 (j6.trans eip) hip (j1.trans eiy) (j3.trans eir)
  generalize hμ1 : zbkX μ ip iy ir = μ1 at hX
  have hf1 : zFr μ1 := by rw [← hμ1]; exact fr_uI (fr_uI (zrs_fr hf ip))
  have rs1 : ∀ a k, 2 ≤ a → μ1.2.1 a k = (zrs μ ip).2.1 a k := by intro a k ha; rw [← hμ1]; unfold zbkX; rw [uI_at, uI_at, if_neg (by omega), if_neg (by omega)]
  have offX : ∀ a k, ¬ (a = 1 ∧ k = 3) → ¬ (a = 0 ∧ k = 6) → ¬ (18 ≤ a ∧ a < 18 + 3 * ip ∧ ((a - 18) % 3 = 0 ∧ (k = 4 ∨ k = 6) ∨ (a - 18) % 3 = 1)) → μ1.2.1 a k = μ.2.1 a k := by
    intro a k q1 q2 q3
    rw [← hμ1]; unfold zbkX
    rw [uI_at, uI_at, if_neg q2, if_neg q1, zrs_off ip q3]
  have o1 : ∀ a k, 39 ≤ a → μ1.2.1 a k = μ.2.1 a k := fun a k ha => offX a k (by omega) (by omega) (by omega)
  have hM := M_back_ok (μ := μ1) (ip := ip) (iy := iy) (ir := ir) hf1 ((o1 _ _ (by decide)).trans (i1.symm.trans i2)) ((o1 _ _ (by decide)).trans eip) hip ((o1 _ _ (by decide)).trans eiy) ((o1 _ _ (by decide)).trans eir)
    (by
      intro k hk
      rw [o1 _ _ (by decide)]
      obtain ⟨w, q, hw, hq, rfl⟩ := z6 (show k < 42 by omega)
      rcases (j9 w hw (by omega)).2.2.2 q hq with z | z
      · exact Or.inl z.1
      · exact Or.inr z.1)
    (by
      intro k hk
      rw [o1 _ _ (by decide)]
      obtain ⟨w, q, hw, hq, rfl⟩ := z6 (show k < 42 by omega)
      exact ((j9 w hw (by omega)).2.2.1.2 q hq).1)
  generalize hμ2 : zbkM μ1 ip iy ir = μ2 at hM
  have hf2 : zFr μ2 := by rw [← hμ2]; exact zfg_fr (ztri_fr (fr_uI (fr_uI hf1)) _) _
  have hat : ∀ a k, μ2.2.1 a k = if a = 80 ∧ 0 ≤ k ∧ k < 0 + ip then μ1.2.1 98 (k - 0) else if a = 81 ∧ k < 6 * ip then μ1.2.1 95 k else if a = 82 ∧ k < 6 * ip then μ1.2.1 96 k else if a = 83 ∧ k < 6 * ip then μ1.2.1 97 k else if a = 73 ∧ k = 17 then nI ir else if a = 73 ∧ k = 10 then nI iy else μ1.2.1 a k := by
    intro a k
    rw [← hμ2]; unfold zbkM
    rw [zfg_at, ztri_at (by decide) (by decide) (by decide)]
    unfold zbkM0
    rw [uI_at, uI_at]
  have hoff : ∀ a k, ¬ (a = 1 ∧ k = 3) → ¬ (a = 0 ∧ k = 6) → ¬ (18 ≤ a ∧ a ≤ 38 ∧ ((a - 18) % 3 = 0 ∧ (k = 4 ∨ k = 6) ∨ (a - 18) % 3 = 1)) → ¬ (80 ≤ a ∧ a ≤ 83) → ¬ (a = 73 ∧ (k = 10 ∨ k = 17)) → μ2.2.1 a k = μ.2.1 a k := by
    intro a k q1 q2 q3 q4 q5
    rw [hat, if_neg (by omega), if_neg (by omega), if_neg (by omega), if_neg (by omega), if_neg (by omega), if_neg (by omega), offX a k q1 q2 (by omega)]
  have lowX : ∀ a k, 2 ≤ a → a ≤ 38 → μ2.2.1 a k = (zrs μ ip).2.1 a k := by
    intro a k q1 q2
    rw [hat, if_neg (by omega), if_neg (by omega), if_neg (by omega), if_neg (by omega), if_neg (by omega), if_neg (by omega), rs1 a k q1]
  have hAs2 : zAs p (c + 1) μ2.2.1 := by
    intro w hw
    by_cases hwi : w < ip
    · obtain ⟨v1, v2, v3⟩ := zrs_in (μ := μ) (w := w) ip hwi
      obtain ⟨s1, s2, -⟩ := j9 w hw hwi
      have e80 : μ2.2.1 80 w = μ.2.1 98 w := by rw [hat, if_pos (by omega), Nat.sub_zero, o1 _ _ (by decide)]
      rw [lowX _ _ (by omega) (by omega), v1, e80]
      exact ⟨s1, zRg_m s2 (by omega), fun z => by omega⟩
    · have e80 : μ2.2.1 80 w = μ.2.1 80 w := by rw [hat]; (repeat (first | rw [if_neg (by omega)] | rw [if_pos (by omega)])); rw [o1 _ _ (by decide)]
      rw [lowX _ _ (by omega) (by omega), zrs_off ip (by omega), e80]
      obtain ⟨s1, s2, s3⟩ := hAs w hw
      exact ⟨s1, zRg_m s2 (by omega), s3⟩
  have hTa2 : zTa n p μ2.2.1 := by
    intro w hw q hq
    by_cases hwi : w < ip
    · obtain ⟨v1, v2, v3⟩ := zrs_in (μ := μ) (w := w) ip hwi
      have e82 : μ2.2.1 82 (6 * w + q) = μ.2.1 96 (6 * w + q) := by rw [hat]; (repeat (first | rw [if_neg (by omega)] | rw [if_pos (by omega)])); rw [o1 _ _ (by decide)]
      have e81 : μ2.2.1 81 (6 * w + q) = μ.2.1 95 (6 * w + q) := by rw [hat]; (repeat (first | rw [if_neg (by omega)] | rw [if_pos (by omega)])); rw [o1 _ _ (by decide)]
      rw [lowX _ _ (by omega) (by omega), v3 q hq, e82, e81]
      exact ⟨(j9 w hw hwi).2.2.2 q hq, fun z => by omega⟩
    · have e82 : μ2.2.1 82 (6 * w + q) = μ.2.1 82 (6 * w + q) := by rw [hat]; (repeat (first | rw [if_neg (by omega)] | rw [if_pos (by omega)])); rw [o1 _ _ (by decide)]
      have e81 : μ2.2.1 81 (6 * w + q) = μ.2.1 81 (6 * w + q) := by rw [hat]; (repeat (first | rw [if_neg (by omega)] | rw [if_pos (by omega)])); rw [o1 _ _ (by decide)]
      rw [lowX _ _ (by omega) (by omega), zrs_off ip (by omega), e82, e81]
      exact hTa w hw q hq
  have hBa2 : zBa p μ2.2.1 := by
    intro w hw
    by_cases hwi : w < ip
    · obtain ⟨v1, v2, v3⟩ := zrs_in (μ := μ) (w := w) ip hwi
      rw [lowX _ _ (by omega) (by omega), v2]
      refine ⟨zBb_c (j9 w hw hwi).2.2.1 (fun q hq => ?_), fun z => by omega⟩
      rw [hat]; (repeat (first | rw [if_neg (by omega)] | rw [if_pos (by omega)])); rw [o1 _ _ (by decide)]
    · rw [lowX _ _ (by omega) (by omega), zrs_off ip (by omega)]
      refine ⟨zBb_c (hBa w hw).1 (fun q hq => ?_), (hBa w hw).2⟩
      rw [hat]; (repeat (first | rw [if_neg (by omega)] | rw [if_pos (by omega)])); rw [o1 _ _ (by decide)]
  have hYr2 : zYr iy μ2.2.1 := by
    refine ⟨hiy, ?_, ?_⟩
    · rw [hat]; (repeat (first | rw [if_neg (by omega)] | rw [if_pos (by omega)])); rw [← hμ1]; rfl
    · rw [hat]; (repeat (first | rw [if_neg (by omega)] | rw [if_pos (by omega)]))
  have hTx2 : zTx tx ir μ2.2.1 := by
    refine ⟨x1, x2, ?_, ?_, j5, ?_, ?_, ?_⟩
    · rw [hoff _ _ (by omega) (by omega) (by omega) (by omega) (by omega)]; exact x3
    · rw [hoff _ _ (by omega) (by omega) (by omega) (by omega) (by omega)]; exact x4
    · rw [hat]; (repeat (first | rw [if_neg (by omega)] | rw [if_pos (by omega)])); rw [← hμ1]; rfl
    · rw [hat]; (repeat (first | rw [if_neg (by omega)] | rw [if_pos (by omega)]))
    · intro t ht htx
      exact zTt_c ht (x8 t ht htx) (fun a k hak => hoff a k (by omega) (by omega) (by omega) (by omega) (by omega))
  refine ⟨_, μ1, μ2, hX, hf1, hM, n, p, iy, tx, ir, tp, hf2, ?_⟩
  refine ⟨zP_c hP ?_, zPe_c hPe ?_, hAs2, hTa2, hBa2, hYr2, zTp_c hTp ?_, hTx2, zIm_m (zIm_c hIm ?_) (Nat.le_refl n) (Nat.le_refl p) (Nat.le_refl tx) (Nat.le_succ c), zSh_c hSh ?_, zLt_c hLt ?_⟩
  all_goals (intro a k hak; exact hoff a k (by omega) (by omega) (by omega) (by omega) (by omega))
end S
