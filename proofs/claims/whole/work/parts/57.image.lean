-- ===== image, back: the class's side =====
def zcr (μ : zS) (a b : Nat) : zS := (μ.1, fun c h => if c = b then va_cpy (μ.2.1 a) (μ.2.1 b) 0 0 6 h else μ.2.1 c h, μ.2.2)
section S
variable {n p yr tx rl tp c : Nat} {μ : zS}
theorem zcr_fr {a b : Nat} (h : zFr μ) : zFr (zcr μ a b) := h
theorem zcr_at (μ : zS) (a b x h : Nat) : (zcr μ a b).2.1 x h = if x = b ∧ h < 6 then μ.2.1 a h else μ.2.1 x h := by
  show (if x = b then va_cpy (μ.2.1 a) (μ.2.1 b) 0 0 6 h else μ.2.1 x h) = _
  by_cases q : x = b
  · rw [if_pos q]
    unfold va_cpy
    by_cases q2 : h < 6
    · rw [if_pos (by omega), if_pos ⟨q, q2⟩]; simp
    · rw [if_neg (by omega), if_neg (fun z => q2 z.2), q]
  · rw [if_neg q, if_neg (fun z => q z.1)]
theorem zcp6 {a b : Nat} (hf : zFr μ) (ha : zL0[a]? = some (.inl (.int, 6))) (hb : zL0[b]? = some (.inl (.int, 6))) : zcp μ (some a) 0 (some b) 0 6 = some (zcr μ a b) := by
  have e1 : (0 : Int32).toNatClampNeg = 0 := by decide
  have e2 : (6 : Int32).toNatClampNeg = 6 := by decide
  simp only [zcp, hf.1, ha, hb, e1, e2]
  rw [if_pos (by decide), zcr, ← hf.1]
def zsv1 (μ : zS) (w : Nat) : zS := zcr (zuI (zuI μ (18 + 3 * w) 7 (μ.2.1 (18 + 3 * w) 4)) (18 + 3 * w) 9 (μ.2.1 (18 + 3 * w) 6)) (19 + 3 * w) (20 + 3 * w)
def zrs1 (μ : zS) (w : Nat) : zS := zcr (zuI (zuI μ (18 + 3 * w) 4 (μ.2.1 (18 + 3 * w) 7)) (18 + 3 * w) 6 (μ.2.1 (18 + 3 * w) 9)) (20 + 3 * w) (19 + 3 * w)
theorem X_save {w : Nat} (hf : zFr μ) (hw : w < 7) : F_Person_save μ (18 + 3 * w) = some (zsv1 μ w) := by
  unfold F_Person_save zsv1
  rw [gI_P hf hw, zb_some, pI_P hf hw, zb_some, gI_P (fr_uI hf) hw, zb_some, pI_P (fr_uI hf) hw, zb_some, gR_P_5 (fr_uI (fr_uI hf)) hw, zb_some, gR_P_8 (fr_uI (fr_uI hf)) hw, zb_some, zcp6 (fr_uI (fr_uI hf)) (lay_P_5 w hw) (lay_P_8 w hw), zb_some, uI_at, if_neg (by omega)]
theorem X_restore {w : Nat} (hf : zFr μ) (hw : w < 7) : F_Person_restore μ (18 + 3 * w) = some (zrs1 μ w) := by
  unfold F_Person_restore zrs1
  rw [gI_P hf hw, zb_some, pI_P hf hw, zb_some, gI_P (fr_uI hf) hw, zb_some, pI_P (fr_uI hf) hw, zb_some, gR_P_8 (fr_uI (fr_uI hf)) hw, zb_some, gR_P_5 (fr_uI (fr_uI hf)) hw, zb_some, zcp6 (fr_uI (fr_uI hf)) (lay_P_8 w hw) (lay_P_5 w hw), zb_some, uI_at, if_neg (by omega)]
def zsv (μ : zS) : Nat → zS
  | 0 => μ
  | i + 1 => zsv1 (zsv μ i) i
def zrs (μ : zS) : Nat → zS
  | 0 => μ
  | i + 1 => zrs1 (zrs μ i) i
theorem zsv_fr (hf : zFr μ) : ∀ i, zFr (zsv μ i)
  | 0 => hf
  | i + 1 => zcr_fr (fr_uI (fr_uI (zsv_fr hf i)))
theorem zrs_fr (hf : zFr μ) : ∀ i, zFr (zrs μ i)
  | 0 => hf
  | i + 1 => zcr_fr (fr_uI (fr_uI (zrs_fr hf i)))
theorem zsv1_at (μ : zS) (w a k : Nat) : (zsv1 μ w).2.1 a k = if a = 20 + 3 * w ∧ k < 6 then μ.2.1 (19 + 3 * w) k else if a = 18 + 3 * w ∧ k = 9 then μ.2.1 (18 + 3 * w) 6 else if a = 18 + 3 * w ∧ k = 7 then μ.2.1 (18 + 3 * w) 4 else μ.2.1 a k := by
  unfold zsv1
  rw [zcr_at, uI_at, uI_at, uI_at, uI_at, if_neg (show ¬ (19 + 3 * w = 18 + 3 * w ∧ k = 9) by omega), if_neg (show ¬ (19 + 3 * w = 18 + 3 * w ∧ k = 7) by omega)]
theorem zrs1_at (μ : zS) (w a k : Nat) : (zrs1 μ w).2.1 a k = if a = 19 + 3 * w ∧ k < 6 then μ.2.1 (20 + 3 * w) k else if a = 18 + 3 * w ∧ k = 6 then μ.2.1 (18 + 3 * w) 9 else if a = 18 + 3 * w ∧ k = 4 then μ.2.1 (18 + 3 * w) 7 else μ.2.1 a k := by
  unfold zrs1
  rw [zcr_at, uI_at, uI_at, uI_at, uI_at, if_neg (show ¬ (20 + 3 * w = 18 + 3 * w ∧ k = 6) by omega), if_neg (show ¬ (20 + 3 * w = 18 + 3 * w ∧ k = 4) by omega)]
/-- behind some saves: nothing else has changed -/
theorem zsv_off {a k : Nat} : ∀ i, ¬ (18 ≤ a ∧ a < 18 + 3 * i ∧ ((a - 18) % 3 = 0 ∧ (k = 7 ∨ k = 9) ∨ (a - 18) % 3 = 2)) → (zsv μ i).2.1 a k = μ.2.1 a k
  | 0, _ => rfl
  | i + 1, h => by
    show (zsv1 (zsv μ i) i).2.1 a k = _
    rw [zsv1_at, if_neg (by omega), if_neg (by omega), if_neg (by omega), zsv_off i (by omega)]
theorem zrs_off {a k : Nat} : ∀ i, ¬ (18 ≤ a ∧ a < 18 + 3 * i ∧ ((a - 18) % 3 = 0 ∧ (k = 4 ∨ k = 6) ∨ (a - 18) % 3 = 1)) → (zrs μ i).2.1 a k = μ.2.1 a k
  | 0, _ => rfl
  | i + 1, h => by
    show (zrs1 (zrs μ i) i).2.1 a k = _
    rw [zrs1_at, if_neg (by omega), if_neg (by omega), if_neg (by omega), zrs_off i (by omega)]
theorem zsv_in {w : Nat} : ∀ i, w < i → (zsv μ i).2.1 (18 + 3 * w) 7 = μ.2.1 (18 + 3 * w) 4 ∧ (zsv μ i).2.1 (18 + 3 * w) 9 = μ.2.1 (18 + 3 * w) 6 ∧ ∀ q, q < 6 → (zsv μ i).2.1 (20 + 3 * w) q = μ.2.1 (19 + 3 * w) q
  | 0, h => absurd h (Nat.not_lt_zero _)
  | i + 1, h => by
    show (zsv1 (zsv μ i) i).2.1 _ _ = _ ∧ (zsv1 (zsv μ i) i).2.1 _ _ = _ ∧ ∀ q, q < 6 → (zsv1 (zsv μ i) i).2.1 _ _ = _
    by_cases hw : w = i
    · subst hw
      refine ⟨?_, ?_, fun q hq => ?_⟩
      · rw [zsv1_at, if_neg (by omega), if_neg (by omega), if_pos ⟨rfl, rfl⟩, zsv_off w (by omega)]
      · rw [zsv1_at, if_neg (by omega), if_pos ⟨rfl, rfl⟩, zsv_off w (by omega)]
      · rw [zsv1_at, if_pos ⟨rfl, hq⟩, zsv_off w (by omega)]
    · obtain ⟨h1, h2, h3⟩ := zsv_in (w := w) i (by omega)
      refine ⟨?_, ?_, fun q hq => ?_⟩
      · rw [zsv1_at, if_neg (by omega), if_neg (by omega), if_neg (by omega), h1]
      · rw [zsv1_at, if_neg (by omega), if_neg (by omega), if_neg (by omega), h2]
      · rw [zsv1_at, if_neg (by omega), if_neg (by omega), if_neg (by omega), h3 q hq]
theorem zrs_in {w : Nat} : ∀ i, w < i → (zrs μ i).2.1 (18 + 3 * w) 4 = μ.2.1 (18 + 3 * w) 7 ∧ (zrs μ i).2.1 (18 + 3 * w) 6 = μ.2.1 (18 + 3 * w) 9 ∧ ∀ q, q < 6 → (zrs μ i).2.1 (19 + 3 * w) q = μ.2.1 (20 + 3 * w) q
  | 0, h => absurd h (Nat.not_lt_zero _)
  | i + 1, h => by
    show (zrs1 (zrs μ i) i).2.1 _ _ = _ ∧ (zrs1 (zrs μ i) i).2.1 _ _ = _ ∧ ∀ q, q < 6 → (zrs1 (zrs μ i) i).2.1 _ _ = _
    by_cases hw : w = i
    · subst hw
      refine ⟨?_, ?_, fun q hq => ?_⟩
      · rw [zrs1_at, if_neg (by omega), if_neg (by omega), if_pos ⟨rfl, rfl⟩, zrs_off w (by omega)]
      · rw [zrs1_at, if_neg (by omega), if_pos ⟨rfl, rfl⟩, zrs_off w (by omega)]
      · rw [zrs1_at, if_pos ⟨rfl, hq⟩, zrs_off w (by omega)]
    · obtain ⟨h1, h2, h3⟩ := zrs_in (w := w) i (by omega)
      refine ⟨?_, ?_, fun q hq => ?_⟩
      · rw [zrs1_at, if_neg (by omega), if_neg (by omega), if_neg (by omega), h1]
      · rw [zrs1_at, if_neg (by omega), if_neg (by omega), if_neg (by omega), h2]
      · rw [zrs1_at, if_neg (by omega), if_neg (by omega), if_neg (by omega), h3 q hq]
/-- behind the class's image() -/
def zimX (μ : zS) (p yr rl : Nat) : zS := zuI (zuI (zuI (zuI (zsv μ p) 0 12 1) 0 13 (nI yr)) 0 14 (nI rl)) 0 15 (nI p)
theorem X_image_ok (hf : zFr μ) (hp : μ.2.1 0 2 = nI p) (hp7 : p ≤ 7) (hy : μ.2.1 1 3 = nI yr) (hr : μ.2.1 0 6 = nI rl) : F_X_image μ 0 = some (nI yr, zimX μ p yr rl) := by
  unfold F_X_image
  have o1 : ∀ i, (zsv μ i).2.1 0 2 = nI p := fun i => by rw [zsv_off i (by omega)]; exact hp
  have o2 : ∀ i, (zsv μ i).2.1 1 3 = nI yr := fun i => by rw [zsv_off i (by omega)]; exact hy
  have o3 : ∀ i, (zsv μ i).2.1 0 6 = nI rl := fun i => by rw [zsv_off i (by omega)]; exact hr
  refine fix2_t p (fun i => zsv μ i) (fun i => nI i) ?_ ?_ (zFU_lt (by omega))
  · intro r i hi
    have hfi := zsv_fr hf i
    rw [gI_0 hfi, zb_some, o1, if_neg (show ¬ nI p ≤ nI i by rw [nI_leI (by omega) (by omega)]; omega), gR_0_1 hfi, zb_some, aR_3 hfi (by omega), zb_some, fo_P hfi (by omega), zb_some, X_save hfi (by omega), zb_some, show nI i + 1 = nI (i + 1) from nI_add i 1]
    rfl
  · intro r
    have hfi := zsv_fr hf p
    unfold zimX
    rw [gI_0 hfi, zb_some, o1, if_pos (Int32.le_refl _)]
    simp (disch := first | omega | assumption | exact Or.inl rfl | exact Or.inr rfl | (repeat (first | assumption | apply fr_uI | apply fr_uJ)) ) only [fo_0, fo_1, fo_6, fo_9, fo_13, fo_71, fo_73, fo_P, fo_T, fo_S, gI_0, gI_1, gI_6, gI_9, gI_13, gI_71, gI_73, gI_P, gI_T, gI_S, gR_0_0, gR_0_1, gR_0_3, gR_0_4, gR_0_7, gR_0_8, gR_0_9, gR_0_10, gR_0_11, gR_1_2, gR_6_1, gR_6_2, gR_9_2, gR_9_3, gR_9_4, gR_13_1, gR_13_2, gR_13_3, gR_71_1, gR_73_2, gR_73_3, gR_73_5, gR_73_6, gR_73_7, gR_73_8, gR_73_9, gR_73_11, gR_73_12, gR_73_13, gR_73_14, gR_73_18, gR_73_19, gR_73_20, gR_73_29, gR_73_30, gR_73_31, gR_73_32, gR_73_33, gR_73_34, gR_73_35, gR_73_45, gR_73_46, gR_73_47, gR_73_48, gR_73_49, gR_73_50, gR_73_51, gR_73_52, gR_P_5, gR_P_8, gR_T_0, gR_T_2, gR_T_3, gR_S_2, pI_0, pI_1, pI_6, pI_9, pI_13, pI_71, pI_73, pI_P, pI_T, pI_S, aR_3, aR_4, aR_17, aI_P_5, aI_P_8, aI_T_0, aI_T_2, aI_T_3, aI_S_2, aI_2, aI_5, aI_7, aI_8, aI_10, aI_11, aI_12, aI_14, aI_15, aI_72, aI_74, aI_75, aI_76, aI_77, aI_78, aI_79, aI_80, aI_81, aI_82, aI_83, aI_84, aI_85, aI_86, aI_87, aI_88, aI_89, aI_90, aI_91, aI_92, aI_93, aI_94, aI_95, aI_96, aI_97, aI_98, aI_99, aI_100, aI_101, aI_102, aI_103, sI_P_5, sI_P_8, sI_T_0, sI_T_2, sI_T_3, sI_S_2, sI_2, sI_5, sI_7, sI_8, sI_10, sI_11, sI_12, sI_14, sI_15, sI_72, sI_75, sI_76, sI_77, sI_78, sI_79, sI_80, sI_81, sI_84, sI_85, sI_86, sI_87, sI_89, sI_90, sI_91, sI_92, sI_93, sI_94, sI_95, sI_98, sI_99, sI_100, sI_101, sI_102, sI_103, aJ_16, sJ_16, zk_some, zb_some, zlet_eq, zjn1_eq, zjn2_eq, zjn3_eq, zjn4_eq, zjn5_eq, zjn6_eq, zjn7_eq, ite_true, ite_false, reduceIte, Nat.reduceEqDiff, and_true, true_and, false_and, and_false, reduceCtorEq, eq_self, pZ_0, pZ_1, pZ_6, pZ_9, pZ_13, pZ_71, pZ_73, sZ_74, sZ_82, sZ_83, sZ_96, sZ_97, uI_at, o1, o2, o3]
end S
