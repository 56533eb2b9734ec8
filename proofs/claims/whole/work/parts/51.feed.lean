-- ===== feed =====
/-- the byte that feed takes, as the class finds it; as the reference finds it -/
def zbX (z : Int64) (x : Int32) : Int32 := ((((z : Int64).toUInt64 >>> ((((8 : Int32) * x) : Int32).toInt64.toUInt64 &&& Int64.toUInt64 63)).toInt64 : Int64).toInt32) &&& 255
def zbM (z : Int64) (x : Int32) : Int32 := ((((z : Int64) >>> ((((8 : Int32) * x) : Int32).toInt64 &&& 63)) &&& 255) : Int64).toInt32
theorem bvmask {n : Nat} (hn : 8 ≤ n) (i : Nat) : (BitVec.ofNat n 255).getLsbD i = decide (i < 8) := by
  rw [BitVec.getLsbD_ofNat]
  have h : ∀ i, Nat.testBit 255 i = decide (i < 8) := by
    intro i
    rw [show 255 = 2 ^ 8 - 1 from rfl, Nat.testBit_two_pow_sub_one]
  rw [h]
  by_cases hi : i < 8
  · have : i < n := by omega
    simp [hi, this]
  · simp [hi]
theorem bvbyte (v : BitVec 64) {s : Nat} (hs : s ≤ 56) : ((v >>> s).setWidth 32) &&& 255#32 = ((v.sshiftRight s) &&& 255#64).setWidth 32 := by
  apply BitVec.eq_of_getLsbD_eq
  intro j hj
  rw [BitVec.getLsbD_and, BitVec.getLsbD_setWidth, BitVec.getLsbD_setWidth, BitVec.getLsbD_and, bvmask (by decide), bvmask (by decide)]
  by_cases h8 : j < 8
  · rw [BitVec.getLsbD_ushiftRight, BitVec.getLsbD_sshiftRight]
    have h1 : ¬ 64 ≤ j := by omega
    have h2 : s + j < 64 := by omega
    simp [hj, h8, h1, h2]
  · simp [h8]
theorem zbX_bv (z : Int64) {i : Nat} (hi : i < 8) : (zbX z (nI i)).toBitVec = ((z.toBitVec >>> (8 * i)).setWidth 32) &&& 255#32 := by
  have hs : ((((8 : Int32) * nI i).toInt64.toUInt64 &&& Int64.toUInt64 63).toBitVec % 64#64).toNat = 8 * i := by
    have : ∀ i : Fin 8, ((((8 : Int32) * nI i.1).toInt64.toUInt64 &&& Int64.toUInt64 63).toBitVec % 64#64).toNat = 8 * i.1 := by decide +kernel
    exact this ⟨i, hi⟩
  unfold zbX
  generalize (((8 : Int32) * nI i).toInt64.toUInt64 &&& Int64.toUInt64 63) = y at hs ⊢
  rw [Int32.toBitVec_and]
  rw [Int64.toBitVec_toInt32, BitVec.signExtend_eq_setWidth_of_le _ (by decide)]
  show BitVec.setWidth 32 (z.toUInt64 >>> y).toBitVec &&& 255#32 = _
  rw [UInt64.toBitVec_shiftRight, BitVec.ushiftRight_eq']
  rw [show (y.toBitVec % 64).toNat = 8 * i from hs]
  rfl
theorem zbM_bv (z : Int64) {i : Nat} (hi : i < 8) : (zbM z (nI i)).toBitVec = ((z.toBitVec.sshiftRight (8 * i)) &&& 255#64).setWidth 32 := by
  have hs : ((((8 : Int32) * nI i).toInt64 &&& 63).toBitVec.smod 64#64).toNat = 8 * i := by
    have : ∀ i : Fin 8, ((((8 : Int32) * nI i.1).toInt64 &&& 63).toBitVec.smod 64#64).toNat = 8 * i.1 := by decide +kernel
    exact this ⟨i, hi⟩
  unfold zbM
  generalize (((8 : Int32) * nI i).toInt64 &&& 63) = y at hs ⊢
  rw [Int64.toBitVec_toInt32, BitVec.signExtend_eq_setWidth_of_le _ (by decide)]
  rw [Int64.toBitVec_and, Int64.toBitVec_shiftRight, BitVec.sshiftRight_eq']
  rw [show (y.toBitVec.smod 64).toNat = 8 * i from hs]
  rfl
theorem zb_eq (z : Int64) {i : Nat} (hi : i < 8) : zbX z (nI i) = zbM z (nI i) := by
  apply Int32.toBitVec_inj.mp
  rw [zbX_bv z hi, zbM_bv z hi, bvbyte _ (by omega)]
theorem and255 (y : Int32) : ∃ v, v ≤ 255 ∧ y &&& 255 = nI v := by
  refine ⟨(y &&& 255).toBitVec.toNat, ?_, ?_⟩
  · show (y.toBitVec &&& 255#32).toNat ≤ 255
    rw [BitVec.toNat_and]
    exact Nat.and_le_right
  · apply Int32.toBitVec_inj.mp
    apply BitVec.eq_of_toNat_eq
    show _ = (BitVec.ofNat 32 _).toNat
    rw [BitVec.toNat_ofNat, Nat.mod_eq_of_lt (BitVec.isLt _)]
theorem zb_le (z : Int64) (x : Int32) : zRg (zbX z x) 255 := by
  obtain ⟨v, hv, he⟩ := and255 (((z : Int64).toUInt64 >>> ((((8 : Int32) * x) : Int32).toInt64.toUInt64 &&& Int64.toUInt64 63)).toInt64 : Int64).toInt32
  show zRg (_ &&& 255) 255
  rw [he]
  exact zRg_nI hv (by decide)
section S
variable {n p yr tx rl tp c : Nat} {μ : zS}
def zfX (t : Nat) (f : Nat → Int32) (μ : zS) : Nat → zS
  | 0 => μ
  | i + 1 => zuI (zuI (zfX t f μ i) 72 (t + i) (f i)) 71 0 (nI (t + i + 1))
def zfM (t : Nat) (f : Nat → Int32) (μ : zS) : Nat → zS
  | 0 => μ
  | i + 1 => zuI (zuI (zfM t f μ i) 84 (t + i) (f i)) 73 15 (nI (t + i + 1))
theorem zfX_fr {t : Nat} {f : Nat → Int32} (hf : zFr μ) : ∀ i, zFr (zfX t f μ i)
  | 0 => hf
  | i + 1 => fr_uI (fr_uI (zfX_fr hf i))
theorem zfM_fr {t : Nat} {f : Nat → Int32} (hf : zFr μ) : ∀ i, zFr (zfM t f μ i)
  | 0 => hf
  | i + 1 => fr_uI (fr_uI (zfM_fr hf i))
theorem zfX_at {t : Nat} {f : Nat → Int32} (a k : Nat) : ∀ i, (zfX t f μ i).2.1 a k = if a = 71 ∧ k = 0 ∧ 0 < i then nI (t + i) else if a = 72 ∧ t ≤ k ∧ k < t + i then f (k - t) else μ.2.1 a k
  | 0 => by rw [if_neg (by omega), if_neg (by omega)]; rfl
  | i + 1 => by
    show (zuI (zuI (zfX t f μ i) 72 (t + i) (f i)) 71 0 (nI (t + i + 1))).2.1 a k = _
    rw [uI_at, uI_at, zfX_at a k i]
    by_cases h1 : a = 71 ∧ k = 0
    · rw [if_pos h1, if_pos (by omega)]; rfl
    · rw [if_neg h1, if_neg (show ¬ (a = 71 ∧ k = 0 ∧ 0 < i + 1) by omega), if_neg (show ¬ (a = 71 ∧ k = 0 ∧ 0 < i) by omega)]
      by_cases h2 : a = 72 ∧ k = t + i
      · rw [if_pos h2, if_pos (by omega), show k - t = i by omega]
      · rw [if_neg h2]
        by_cases h3 : a = 72 ∧ t ≤ k ∧ k < t + i
        · rw [if_pos h3, if_pos (by omega)]
        · rw [if_neg h3, if_neg (by omega)]
theorem zfM_at {t : Nat} {f : Nat → Int32} (a k : Nat) : ∀ i, (zfM t f μ i).2.1 a k = if a = 73 ∧ k = 15 ∧ 0 < i then nI (t + i) else if a = 84 ∧ t ≤ k ∧ k < t + i then f (k - t) else μ.2.1 a k
  | 0 => by rw [if_neg (by omega), if_neg (by omega)]; rfl
  | i + 1 => by
    show (zuI (zuI (zfM t f μ i) 84 (t + i) (f i)) 73 15 (nI (t + i + 1))).2.1 a k = _
    rw [uI_at, uI_at, zfM_at a k i]
    by_cases h1 : a = 73 ∧ k = 15
    · rw [if_pos h1, if_pos (by omega)]; rfl
    · rw [if_neg h1, if_neg (show ¬ (a = 73 ∧ k = 15 ∧ 0 < i + 1) by omega), if_neg (show ¬ (a = 73 ∧ k = 15 ∧ 0 < i) by omega)]
      by_cases h2 : a = 84 ∧ k = t + i
      · rw [if_pos h2, if_pos (by omega), show k - t = i by omega]
      · rw [if_neg h2]
        by_cases h3 : a = 84 ∧ t ≤ k ∧ k < t + i
        · rw [if_pos h3, if_pos (by omega)]
        · rw [if_neg h3, if_neg (by omega)]
theorem X_feed_ok {t m : Nat} {z : Int64} (hf : zFr μ) (ht : μ.2.1 71 0 = nI t) (hm1 : 1 ≤ m) (hm : m ≤ 8) (h160 : t + m ≤ 160) : F_X_feed μ 0 (nI m) z = some (nI (t + m), zfX t (fun i => zbX z (nI i)) μ m) := by
  have h1 : ¬ m < 1 := by omega
  unfold F_X_feed
  simp (disch := first | omega | assumption | exact Or.inl rfl | exact Or.inr rfl | (repeat (first | assumption | apply fr_uI | apply fr_uJ)) ) only [fo_0, fo_1, fo_6, fo_9, fo_13, fo_71, fo_73, fo_P, fo_T, fo_S, gI_0, gI_1, gI_6, gI_9, gI_13, gI_71, gI_73, gI_P, gI_T, gI_S, gR_0_0, gR_0_1, gR_0_3, gR_0_4, gR_0_7, gR_0_8, gR_0_9, gR_0_10, gR_0_11, gR_1_2, gR_6_1, gR_6_2, gR_9_2, gR_9_3, gR_9_4, gR_13_1, gR_13_2, gR_13_3, gR_71_1, gR_73_2, gR_73_3, gR_73_5, gR_73_6, gR_73_7, gR_73_8, gR_73_9, gR_73_11, gR_73_12, gR_73_13, gR_73_14, gR_73_18, gR_73_19, gR_73_20, gR_73_29, gR_73_30, gR_73_31, gR_73_32, gR_73_33, gR_73_34, gR_73_35, gR_73_45, gR_73_46, gR_73_47, gR_73_48, gR_73_49, gR_73_50, gR_73_51, gR_73_52, gR_P_5, gR_P_8, gR_T_0, gR_T_2, gR_T_3, gR_S_2, pI_0, pI_1, pI_6, pI_9, pI_13, pI_71, pI_73, pI_P, pI_T, pI_S, aR_3, aR_4, aR_17, aI_P_5, aI_P_8, aI_T_0, aI_T_2, aI_T_3, aI_S_2, aI_2, aI_5, aI_7, aI_8, aI_10, aI_11, aI_12, aI_14, aI_15, aI_72, aI_74, aI_75, aI_76, aI_77, aI_78, aI_79, aI_80, aI_81, aI_82, aI_83, aI_84, aI_85, aI_86, aI_87, aI_88, aI_89, aI_90, aI_91, aI_92, aI_93, aI_94, aI_95, aI_96, aI_97, aI_98, aI_99, aI_100, aI_101, aI_102, aI_103, sI_P_5, sI_P_8, sI_T_0, sI_T_2, sI_T_3, sI_S_2, sI_2, sI_5, sI_7, sI_8, sI_10, sI_11, sI_12, sI_14, sI_15, sI_72, sI_75, sI_76, sI_77, sI_78, sI_79, sI_80, sI_81, sI_84, sI_85, sI_86, sI_87, sI_89, sI_90, sI_91, sI_92, sI_93, sI_94, sI_95, sI_98, sI_99, sI_100, sI_101, sI_102, sI_103, aJ_16, sJ_16, zk_some, zb_some, zlet_eq, zjn1_eq, zjn2_eq, zjn3_eq, zjn4_eq, zjn5_eq, zjn6_eq, zjn7_eq, ite_true, ite_false, reduceIte, Nat.reduceEqDiff, and_true, true_and, false_and, and_false, reduceCtorEq, eq_self, fa_lit, nI_ltI, nI_leI, nI_eq, nI_add, pk_mul, n_n1, n_sub1, n_shl2, n_and31, n_shr2, n_bit2, Nat.reduceLT, Nat.reduceLeDiff, Nat.reduceAdd, Nat.reduceMul, h1, hm, ht, h160]
  refine fix2_t m (fun i => zfX t (fun i => zbX z (nI i)) μ i) (fun i => nI i) ?_ ?_ (zFU_lt (by omega))
  · intro r i hi
    have hfi := zfX_fr (t := t) (f := fun i => zbX z (nI i)) hf i
    have ht2 : (zfX t (fun i => zbX z (nI i)) μ i).2.1 71 0 = nI (t + i) := by
      rw [zfX_at]
      by_cases hi0 : 0 < i
      · rw [if_pos ⟨rfl, rfl, hi0⟩]
      · rw [if_neg (by omega), if_neg (by omega), ht, show t + i = t by omega]
    have hmi : ¬ m ≤ i := by omega
    have h16 : ¬ 160 ≤ t + i := by omega
    unfold F_Reader_take
    have hz : ((z.toUInt64 >>> ((nI (8 * i)).toInt64.toUInt64 &&& Int64.toUInt64 63)).toInt64.toInt32 &&& nI 255) = zbX z (nI i) := by
      rw [← pk_mul]; rfl
    simp (disch := first | omega | assumption | exact Or.inl rfl | exact Or.inr rfl | (repeat (first | assumption | apply fr_uI | apply fr_uJ)) ) only [fo_0, fo_1, fo_6, fo_9, fo_13, fo_71, fo_73, fo_P, fo_T, fo_S, gI_0, gI_1, gI_6, gI_9, gI_13, gI_71, gI_73, gI_P, gI_T, gI_S, gR_0_0, gR_0_1, gR_0_3, gR_0_4, gR_0_7, gR_0_8, gR_0_9, gR_0_10, gR_0_11, gR_1_2, gR_6_1, gR_6_2, gR_9_2, gR_9_3, gR_9_4, gR_13_1, gR_13_2, gR_13_3, gR_71_1, gR_73_2, gR_73_3, gR_73_5, gR_73_6, gR_73_7, gR_73_8, gR_73_9, gR_73_11, gR_73_12, gR_73_13, gR_73_14, gR_73_18, gR_73_19, gR_73_20, gR_73_29, gR_73_30, gR_73_31, gR_73_32, gR_73_33, gR_73_34, gR_73_35, gR_73_45, gR_73_46, gR_73_47, gR_73_48, gR_73_49, gR_73_50, gR_73_51, gR_73_52, gR_P_5, gR_P_8, gR_T_0, gR_T_2, gR_T_3, gR_S_2, pI_0, pI_1, pI_6, pI_9, pI_13, pI_71, pI_73, pI_P, pI_T, pI_S, aR_3, aR_4, aR_17, aI_P_5, aI_P_8, aI_T_0, aI_T_2, aI_T_3, aI_S_2, aI_2, aI_5, aI_7, aI_8, aI_10, aI_11, aI_12, aI_14, aI_15, aI_72, aI_74, aI_75, aI_76, aI_77, aI_78, aI_79, aI_80, aI_81, aI_82, aI_83, aI_84, aI_85, aI_86, aI_87, aI_88, aI_89, aI_90, aI_91, aI_92, aI_93, aI_94, aI_95, aI_96, aI_97, aI_98, aI_99, aI_100, aI_101, aI_102, aI_103, sI_P_5, sI_P_8, sI_T_0, sI_T_2, sI_T_3, sI_S_2, sI_2, sI_5, sI_7, sI_8, sI_10, sI_11, sI_12, sI_14, sI_15, sI_72, sI_75, sI_76, sI_77, sI_78, sI_79, sI_80, sI_81, sI_84, sI_85, sI_86, sI_87, sI_89, sI_90, sI_91, sI_92, sI_93, sI_94, sI_95, sI_98, sI_99, sI_100, sI_101, sI_102, sI_103, aJ_16, sJ_16, zk_some, zb_some, zlet_eq, zjn1_eq, zjn2_eq, zjn3_eq, zjn4_eq, zjn5_eq, zjn6_eq, zjn7_eq, ite_true, ite_false, reduceIte, Nat.reduceEqDiff, and_true, true_and, false_and, and_false, reduceCtorEq, eq_self, fa_lit, nI_ltI, nI_leI, nI_eq, nI_add, pk_mul, n_n1, n_sub1, n_shl2, n_and31, n_shr2, n_bit2, Nat.reduceLT, Nat.reduceLeDiff, Nat.reduceAdd, Nat.reduceMul, hmi, ht2, h16, uI_at, hz]
    rfl
  · intro r
    have hfm := zfX_fr (t := t) (f := fun i => zbX z (nI i)) hf m
    have ht2 : (zfX t (fun i => zbX z (nI i)) μ m).2.1 71 0 = nI (t + m) := by
      rw [zfX_at, if_pos ⟨rfl, rfl, by omega⟩]
    simp (disch := first | omega | assumption | exact Or.inl rfl | exact Or.inr rfl | (repeat (first | assumption | apply fr_uI | apply fr_uJ)) ) only [fo_0, fo_1, fo_6, fo_9, fo_13, fo_71, fo_73, fo_P, fo_T, fo_S, gI_0, gI_1, gI_6, gI_9, gI_13, gI_71, gI_73, gI_P, gI_T, gI_S, gR_0_0, gR_0_1, gR_0_3, gR_0_4, gR_0_7, gR_0_8, gR_0_9, gR_0_10, gR_0_11, gR_1_2, gR_6_1, gR_6_2, gR_9_2, gR_9_3, gR_9_4, gR_13_1, gR_13_2, gR_13_3, gR_71_1, gR_73_2, gR_73_3, gR_73_5, gR_73_6, gR_73_7, gR_73_8, gR_73_9, gR_73_11, gR_73_12, gR_73_13, gR_73_14, gR_73_18, gR_73_19, gR_73_20, gR_73_29, gR_73_30, gR_73_31, gR_73_32, gR_73_33, gR_73_34, gR_73_35, gR_73_45, gR_73_46, gR_73_47, gR_73_48, gR_73_49, gR_73_50, gR_73_51, gR_73_52, gR_P_5, gR_P_8, gR_T_0, gR_T_2, gR_T_3, gR_S_2, pI_0, pI_1, pI_6, pI_9, pI_13, pI_71, pI_73, pI_P, pI_T, pI_S, aR_3, aR_4, aR_17, aI_P_5, aI_P_8, aI_T_0, aI_T_2, aI_T_3, aI_S_2, aI_2, aI_5, aI_7, aI_8, aI_10, aI_11, aI_12, aI_14, aI_15, aI_72, aI_74, aI_75, aI_76, aI_77, aI_78, aI_79, aI_80, aI_81, aI_82, aI_83, aI_84, aI_85, aI_86, aI_87, aI_88, aI_89, aI_90, aI_91, aI_92, aI_93, aI_94, aI_95, aI_96, aI_97, aI_98, aI_99, aI_100, aI_101, aI_102, aI_103, sI_P_5, sI_P_8, sI_T_0, sI_T_2, sI_T_3, sI_S_2, sI_2, sI_5, sI_7, sI_8, sI_10, sI_11, sI_12, sI_14, sI_15, sI_72, sI_75, sI_76, sI_77, sI_78, sI_79, sI_80, sI_81, sI_84, sI_85, sI_86, sI_87, sI_89, sI_90, sI_91, sI_92, sI_93, sI_94, sI_95, sI_98, sI_99, sI_100, sI_101, sI_102, sI_103, aJ_16, sJ_16, zk_some, zb_some, zlet_eq, zjn1_eq, zjn2_eq, zjn3_eq, zjn4_eq, zjn5_eq, zjn6_eq, zjn7_eq, ite_true, ite_false, reduceIte, Nat.reduceEqDiff, and_true, true_and, false_and, and_false, reduceCtorEq, eq_self, fa_lit, nI_ltI, nI_leI, nI_eq, nI_add, pk_mul, n_n1, n_sub1, n_shl2, n_and31, n_shr2, n_bit2, Nat.reduceLT, Nat.reduceLeDiff, Nat.reduceAdd, Nat.reduceMul, Nat.le_refl, ht2]
theorem M_feed_ok {t m : Nat} {z : Int64} (hf : zFr μ) (ht : μ.2.1 73 15 = nI t) (hm1 : 1 ≤ m) (hm : m ≤ 8) (h160 : t + m ≤ 160) : F_M_feed μ 73 (nI m) z = some (nI (t + m), zfM t (fun i => zbM z (nI i)) μ m) := by
  unfold F_M_feed
  rw [show (1 : Int64) = (nI 1).toInt64 from rfl, show (8 : Int64) = (nI 8).toInt64 from rfl, n_in, if_pos ⟨(nI_leI (by omega) (by omega)).mpr hm1, (nI_leI (by omega) (by omega)).mpr hm⟩]
  simp (disch := first | omega | assumption | exact Or.inl rfl | exact Or.inr rfl | (repeat (first | assumption | apply fr_uI | apply fr_uJ)) ) only [fo_0, fo_1, fo_6, fo_9, fo_13, fo_71, fo_73, fo_P, fo_T, fo_S, gI_0, gI_1, gI_6, gI_9, gI_13, gI_71, gI_73, gI_P, gI_T, gI_S, gR_0_0, gR_0_1, gR_0_3, gR_0_4, gR_0_7, gR_0_8, gR_0_9, gR_0_10, gR_0_11, gR_1_2, gR_6_1, gR_6_2, gR_9_2, gR_9_3, gR_9_4, gR_13_1, gR_13_2, gR_13_3, gR_71_1, gR_73_2, gR_73_3, gR_73_5, gR_73_6, gR_73_7, gR_73_8, gR_73_9, gR_73_11, gR_73_12, gR_73_13, gR_73_14, gR_73_18, gR_73_19, gR_73_20, gR_73_29, gR_73_30, gR_73_31, gR_73_32, gR_73_33, gR_73_34, gR_73_35, gR_73_45, gR_73_46, gR_73_47, gR_73_48, gR_73_49, gR_73_50, gR_73_51, gR_73_52, gR_P_5, gR_P_8, gR_T_0, gR_T_2, gR_T_3, gR_S_2, pI_0, pI_1, pI_6, pI_9, pI_13, pI_71, pI_73, pI_P, pI_T, pI_S, aR_3, aR_4, aR_17, aI_P_5, aI_P_8, aI_T_0, aI_T_2, aI_T_3, aI_S_2, aI_2, aI_5, aI_7, aI_8, aI_10, aI_11, aI_12, aI_14, aI_15, aI_72, aI_74, aI_75, aI_76, aI_77, aI_78, aI_79, aI_80, aI_81, aI_82, aI_83, aI_84, aI_85, aI_86, aI_87, aI_88, aI_89, aI_90, aI_91, aI_92, aI_93, aI_94, aI_95, aI_96, aI_97, aI_98, aI_99, aI_100, aI_101, aI_102, aI_103, sI_P_5, sI_P_8, sI_T_0, sI_T_2, sI_T_3, sI_S_2, sI_2, sI_5, sI_7, sI_8, sI_10, sI_11, sI_12, sI_14, sI_15, sI_72, sI_75, sI_76, sI_77, sI_78, sI_79, sI_80, sI_81, sI_84, sI_85, sI_86, sI_87, sI_89, sI_90, sI_91, sI_92, sI_93, sI_94, sI_95, sI_98, sI_99, sI_100, sI_101, sI_102, sI_103, aJ_16, sJ_16, zk_some, zb_some, zlet_eq, zjn1_eq, zjn2_eq, zjn3_eq, zjn4_eq, zjn5_eq, zjn6_eq, zjn7_eq, ite_true, ite_false, reduceIte, Nat.reduceEqDiff, and_true, true_and, false_and, and_false, reduceCtorEq, eq_self, fa_lit, nI_ltI, nI_leI, nI_eq, nI_add, pk_mul, n_n1, n_sub1, n_shl2, n_and31, n_shr2, n_bit2, Nat.reduceLT, Nat.reduceLeDiff, Nat.reduceAdd, Nat.reduceMul, ht, h160]
  refine fix2_t m (fun i => zfM t (fun i => zbM z (nI i)) μ i) (fun i => nI i) ?_ ?_ (zFU_lt (by omega))
  · intro r i hi
    have hfi := zfM_fr (t := t) (f := fun i => zbM z (nI i)) hf i
    have ht2 : (zfM t (fun i => zbM z (nI i)) μ i).2.1 73 15 = nI (t + i) := by
      rw [zfM_at]
      by_cases hi0 : 0 < i
      · rw [if_pos ⟨rfl, rfl, hi0⟩]
      · rw [if_neg (by omega), if_neg (by omega), ht, show t + i = t by omega]
    have hmi : ¬ m ≤ i := by omega
    have hz : (z >>> ((nI (8 * i)).toInt64 &&& 63) &&& 255).toInt32 = zbM z (nI i) := by
      rw [← pk_mul]; rfl
    simp (disch := first | omega | assumption | exact Or.inl rfl | exact Or.inr rfl | (repeat (first | assumption | apply fr_uI | apply fr_uJ)) ) only [fo_0, fo_1, fo_6, fo_9, fo_13, fo_71, fo_73, fo_P, fo_T, fo_S, gI_0, gI_1, gI_6, gI_9, gI_13, gI_71, gI_73, gI_P, gI_T, gI_S, gR_0_0, gR_0_1, gR_0_3, gR_0_4, gR_0_7, gR_0_8, gR_0_9, gR_0_10, gR_0_11, gR_1_2, gR_6_1, gR_6_2, gR_9_2, gR_9_3, gR_9_4, gR_13_1, gR_13_2, gR_13_3, gR_71_1, gR_73_2, gR_73_3, gR_73_5, gR_73_6, gR_73_7, gR_73_8, gR_73_9, gR_73_11, gR_73_12, gR_73_13, gR_73_14, gR_73_18, gR_73_19, gR_73_20, gR_73_29, gR_73_30, gR_73_31, gR_73_32, gR_73_33, gR_73_34, gR_73_35, gR_73_45, gR_73_46, gR_73_47, gR_73_48, gR_73_49, gR_73_50, gR_73_51, gR_73_52, gR_P_5, gR_P_8, gR_T_0, gR_T_2, gR_T_3, gR_S_2, pI_0, pI_1, pI_6, pI_9, pI_13, pI_71, pI_73, pI_P, pI_T, pI_S, aR_3, aR_4, aR_17, aI_P_5, aI_P_8, aI_T_0, aI_T_2, aI_T_3, aI_S_2, aI_2, aI_5, aI_7, aI_8, aI_10, aI_11, aI_12, aI_14, aI_15, aI_72, aI_74, aI_75, aI_76, aI_77, aI_78, aI_79, aI_80, aI_81, aI_82, aI_83, aI_84, aI_85, aI_86, aI_87, aI_88, aI_89, aI_90, aI_91, aI_92, aI_93, aI_94, aI_95, aI_96, aI_97, aI_98, aI_99, aI_100, aI_101, aI_102, aI_103, sI_P_5, sI_P_8, sI_T_0, sI_T_2, sI_T_3, sI_S_2, sI_2, sI_5, sI_7, sI_8, sI_10, sI_11, sI_12, sI_14, sI_15, sI_72, sI_75, sI_76, sI_77, sI_78, sI_79, sI_80, sI_81, sI_84, sI_85, sI_86, sI_87, sI_89, sI_90, sI_91, sI_92, sI_93, sI_94, sI_95, sI_98, sI_99, sI_100, sI_101, sI_102, sI_103, aJ_16, sJ_16, zk_some, zb_some, zlet_eq, zjn1_eq, zjn2_eq, zjn3_eq, zjn4_eq, zjn5_eq, zjn6_eq, zjn7_eq, ite_true, ite_false, reduceIte, Nat.reduceEqDiff, and_true, true_and, false_and, and_false, reduceCtorEq, eq_self, fa_lit, nI_ltI, nI_leI, nI_eq, nI_add, pk_mul, n_n1, n_sub1, n_shl2, n_and31, n_shr2, n_bit2, Nat.reduceLT, Nat.reduceLeDiff, Nat.reduceAdd, Nat.reduceMul, hmi, ht2, uI_at, hz]
    rfl
  · intro r
    have hfm := zfM_fr (t := t) (f := fun i => zbM z (nI i)) hf m
    have ht2 : (zfM t (fun i => zbM z (nI i)) μ m).2.1 73 15 = nI (t + m) := by
      rw [zfM_at, if_pos ⟨rfl, rfl, by omega⟩]
    simp (disch := first | omega | assumption | exact Or.inl rfl | exact Or.inr rfl | (repeat (first | assumption | apply fr_uI | apply fr_uJ)) ) only [fo_0, fo_1, fo_6, fo_9, fo_13, fo_71, fo_73, fo_P, fo_T, fo_S, gI_0, gI_1, gI_6, gI_9, gI_13, gI_71, gI_73, gI_P, gI_T, gI_S, gR_0_0, gR_0_1, gR_0_3, gR_0_4, gR_0_7, gR_0_8, gR_0_9, gR_0_10, gR_0_11, gR_1_2, gR_6_1, gR_6_2, gR_9_2, gR_9_3, gR_9_4, gR_13_1, gR_13_2, gR_13_3, gR_71_1, gR_73_2, gR_73_3, gR_73_5, gR_73_6, gR_73_7, gR_73_8, gR_73_9, gR_73_11, gR_73_12, gR_73_13, gR_73_14, gR_73_18, gR_73_19, gR_73_20, gR_73_29, gR_73_30, gR_73_31, gR_73_32, gR_73_33, gR_73_34, gR_73_35, gR_73_45, gR_73_46, gR_73_47, gR_73_48, gR_73_49, gR_73_50, gR_73_51, gR_73_52, gR_P_5, gR_P_8, gR_T_0, gR_T_2, gR_T_3, gR_S_2, pI_0, pI_1, pI_6, pI_9, pI_13, pI_71, pI_73, pI_P, pI_T, pI_S, aR_3, aR_4, aR_17, aI_P_5, aI_P_8, aI_T_0, aI_T_2, aI_T_3, aI_S_2, aI_2, aI_5, aI_7, aI_8, aI_10, aI_11, aI_12, aI_14, aI_15, aI_72, aI_74, aI_75, aI_76, aI_77, aI_78, aI_79, aI_80, aI_81, aI_82, aI_83, aI_84, aI_85, aI_86, aI_87, aI_88, aI_89, aI_90, aI_91, aI_92, aI_93, aI_94, aI_95, aI_96, aI_97, aI_98, aI_99, aI_100, aI_101, aI_102, aI_103, sI_P_5, sI_P_8, sI_T_0, sI_T_2, sI_T_3, sI_S_2, sI_2, sI_5, sI_7, sI_8, sI_10, sI_11, sI_12, sI_14, sI_15, sI_72, sI_75, sI_76, sI_77, sI_78, sI_79, sI_80, sI_81, sI_84, sI_85, sI_86, sI_87, sI_89, sI_90, sI_91, sI_92, sI_93, sI_94, sI_95, sI_98, sI_99, sI_100, sI_101, sI_102, sI_103, aJ_16, sJ_16, zk_some, zb_some, zlet_eq, zjn1_eq, zjn2_eq, zjn3_eq, zjn4_eq, zjn5_eq, zjn6_eq, zjn7_eq, ite_true, ite_false, reduceIte, Nat.reduceEqDiff, and_true, true_and, false_and, and_false, reduceCtorEq, eq_self, fa_lit, nI_ltI, nI_leI, nI_eq, nI_add, pk_mul, n_n1, n_sub1, n_shl2, n_and31, n_shr2, n_bit2, Nat.reduceLT, Nat.reduceLeDiff, Nat.reduceAdd, Nat.reduceMul, Nat.le_refl, ht2]
theorem K_feed (h : zSt n p yr tx rl tp c μ) (a : Int32) (z : Int64) : zOk c (fun u => F_X_feed u 0 a z) (fun u => F_M_feed u 73 a z) μ := by
  obtain ⟨hf, hP, hPe, hAs, hTa, hBa, hYr, hTp, hTx, hIm, hSh, hLt⟩ := id h
  obtain ⟨t1, t2, t3, t4⟩ := id hTp
  by_cases ha : nI 1 ≤ a ∧ a ≤ nI 8
  · obtain ⟨m, hm, rfl⟩ := nI_ex (m := 8) (by decide) ⟨Int32.le_trans (by decide) ha.1, ha.2⟩
    have hm1 : 1 ≤ m := (nI_leI (by omega) (by omega)).mp ha.1
    have h1 : ¬ m < 1 := by omega
    by_cases h160 : tp + m ≤ 160
    · have eX := X_feed_ok (z := z) hf t2 hm1 hm h160
      generalize hμ1 : zfX tp (fun i => zbX z (nI i)) μ m = μ1 at eX
      have ha1 : ∀ a k, μ1.2.1 a k = if a = 71 ∧ k = 0 ∧ 0 < m then nI (tp + m) else if a = 72 ∧ tp ≤ k ∧ k < tp + m then zbX z (nI (k - tp)) else μ.2.1 a k := by intro a k; rw [← hμ1, zfX_at]
      have hf1 : zFr μ1 := by rw [← hμ1]; exact zfX_fr hf m
      have eM := M_feed_ok (z := z) (t := tp) (m := m) hf1 (by rw [ha1, if_neg (by omega), if_neg (by omega)]; exact t3) hm1 hm h160
      generalize hμ2 : zfM tp (fun i => zbM z (nI i)) μ1 m = μ2 at eM
      have ha2 : ∀ a k, μ2.2.1 a k = if a = 73 ∧ k = 15 ∧ 0 < m then nI (tp + m) else if a = 84 ∧ tp ≤ k ∧ k < tp + m then zbM z (nI (k - tp)) else μ1.2.1 a k := by intro a k; rw [← hμ2, zfM_at]
      have hf2 : zFr μ2 := by rw [← hμ2]; exact zfM_fr hf1 m
      have hoff : ∀ a k, ¬ (a = 73 ∧ k = 15) → a ≠ 84 → ¬ (a = 71 ∧ k = 0) → a ≠ 72 → μ2.2.1 a k = μ.2.1 a k := by
        intro a k h1 h2 h3 h4
        rw [ha2, if_neg (by omega), if_neg (by omega), ha1, if_neg (by omega), if_neg (by omega)]
      have hTp2 : zTp (tp + m) μ2.2.1 := by
        refine ⟨h160, ?_, ?_, ?_⟩
        · rw [ha2, if_neg (by omega), if_neg (by omega), ha1, if_pos (by omega)]
        · rw [ha2, if_pos (by omega)]
        · intro k hk hk2
          by_cases hkt : k < tp
          · rw [ha2 72, if_neg (by omega), if_neg (by omega), ha1, if_neg (by omega), if_neg (by omega), ha2, if_neg (by omega), if_neg (by omega), ha1, if_neg (by omega), if_neg (by omega)]
            exact t4 k hk hkt
          · rw [ha2 72, if_neg (by omega), if_neg (by omega), ha1, if_neg (by omega), if_pos (by omega), ha2, if_neg (by omega), if_pos (by omega), ← zb_eq z (show k - tp < 8 by omega)]
            exact ⟨rfl, zb_le z _⟩
      refine ⟨_, μ1, μ2, eX, hf1, eM, n, p, yr, tx, rl, tp + m, hf2, ?_⟩
      refine ⟨zP_c hP ?_, zPe_c hPe ?_, zAs_m (zAs_c hAs ?_) (Nat.le_succ c) (Nat.le_refl p), zTa_c hTa ?_, zBa_c hBa ?_, zYr_c hYr ?_, hTp2, zTx_c hTx ?_, zIm_m (zIm_c hIm ?_) (Nat.le_refl n) (Nat.le_refl p) (Nat.le_refl tx) (Nat.le_succ c), zSh_c hSh ?_, zLt_c hLt ?_⟩
      all_goals (intro a k hak; exact hoff a k (by omega) (by omega) (by omega) (by omega))
    · refine zOk_same (v := -4) h ?_ ?_
      · unfold F_X_feed
        simp (disch := first | omega | assumption | exact Or.inl rfl | exact Or.inr rfl | (repeat (first | assumption | apply fr_uI | apply fr_uJ)) ) only [fo_0, fo_1, fo_6, fo_9, fo_13, fo_71, fo_73, fo_P, fo_T, fo_S, gI_0, gI_1, gI_6, gI_9, gI_13, gI_71, gI_73, gI_P, gI_T, gI_S, gR_0_0, gR_0_1, gR_0_3, gR_0_4, gR_0_7, gR_0_8, gR_0_9, gR_0_10, gR_0_11, gR_1_2, gR_6_1, gR_6_2, gR_9_2, gR_9_3, gR_9_4, gR_13_1, gR_13_2, gR_13_3, gR_71_1, gR_73_2, gR_73_3, gR_73_5, gR_73_6, gR_73_7, gR_73_8, gR_73_9, gR_73_11, gR_73_12, gR_73_13, gR_73_14, gR_73_18, gR_73_19, gR_73_20, gR_73_29, gR_73_30, gR_73_31, gR_73_32, gR_73_33, gR_73_34, gR_73_35, gR_73_45, gR_73_46, gR_73_47, gR_73_48, gR_73_49, gR_73_50, gR_73_51, gR_73_52, gR_P_5, gR_P_8, gR_T_0, gR_T_2, gR_T_3, gR_S_2, pI_0, pI_1, pI_6, pI_9, pI_13, pI_71, pI_73, pI_P, pI_T, pI_S, aR_3, aR_4, aR_17, aI_P_5, aI_P_8, aI_T_0, aI_T_2, aI_T_3, aI_S_2, aI_2, aI_5, aI_7, aI_8, aI_10, aI_11, aI_12, aI_14, aI_15, aI_72, aI_74, aI_75, aI_76, aI_77, aI_78, aI_79, aI_80, aI_81, aI_82, aI_83, aI_84, aI_85, aI_86, aI_87, aI_88, aI_89, aI_90, aI_91, aI_92, aI_93, aI_94, aI_95, aI_96, aI_97, aI_98, aI_99, aI_100, aI_101, aI_102, aI_103, sI_P_5, sI_P_8, sI_T_0, sI_T_2, sI_T_3, sI_S_2, sI_2, sI_5, sI_7, sI_8, sI_10, sI_11, sI_12, sI_14, sI_15, sI_72, sI_75, sI_76, sI_77, sI_78, sI_79, sI_80, sI_81, sI_84, sI_85, sI_86, sI_87, sI_89, sI_90, sI_91, sI_92, sI_93, sI_94, sI_95, sI_98, sI_99, sI_100, sI_101, sI_102, sI_103, aJ_16, sJ_16, zk_some, zb_some, zlet_eq, zjn1_eq, zjn2_eq, zjn3_eq, zjn4_eq, zjn5_eq, zjn6_eq, zjn7_eq, ite_true, ite_false, reduceIte, Nat.reduceEqDiff, and_true, true_and, false_and, and_false, reduceCtorEq, eq_self, fa_lit, nI_ltI, nI_leI, nI_eq, nI_add, pk_mul, n_n1, n_sub1, n_shl2, n_and31, n_shr2, n_bit2, Nat.reduceLT, Nat.reduceLeDiff, Nat.reduceAdd, Nat.reduceMul, h1, hm, t2, h160]
      · unfold F_M_feed
        rw [show (1 : Int64) = (nI 1).toInt64 from rfl, show (8 : Int64) = (nI 8).toInt64 from rfl, n_in, if_pos ha]
        simp (disch := first | omega | assumption | exact Or.inl rfl | exact Or.inr rfl | (repeat (first | assumption | apply fr_uI | apply fr_uJ)) ) only [fo_0, fo_1, fo_6, fo_9, fo_13, fo_71, fo_73, fo_P, fo_T, fo_S, gI_0, gI_1, gI_6, gI_9, gI_13, gI_71, gI_73, gI_P, gI_T, gI_S, gR_0_0, gR_0_1, gR_0_3, gR_0_4, gR_0_7, gR_0_8, gR_0_9, gR_0_10, gR_0_11, gR_1_2, gR_6_1, gR_6_2, gR_9_2, gR_9_3, gR_9_4, gR_13_1, gR_13_2, gR_13_3, gR_71_1, gR_73_2, gR_73_3, gR_73_5, gR_73_6, gR_73_7, gR_73_8, gR_73_9, gR_73_11, gR_73_12, gR_73_13, gR_73_14, gR_73_18, gR_73_19, gR_73_20, gR_73_29, gR_73_30, gR_73_31, gR_73_32, gR_73_33, gR_73_34, gR_73_35, gR_73_45, gR_73_46, gR_73_47, gR_73_48, gR_73_49, gR_73_50, gR_73_51, gR_73_52, gR_P_5, gR_P_8, gR_T_0, gR_T_2, gR_T_3, gR_S_2, pI_0, pI_1, pI_6, pI_9, pI_13, pI_71, pI_73, pI_P, pI_T, pI_S, aR_3, aR_4, aR_17, aI_P_5, aI_P_8, aI_T_0, aI_T_2, aI_T_3, aI_S_2, aI_2, aI_5, aI_7, aI_8, aI_10, aI_11, aI_12, aI_14, aI_15, aI_72, aI_74, aI_75, aI_76, aI_77, aI_78, aI_79, aI_80, aI_81, aI_82, aI_83, aI_84, aI_85, aI_86, aI_87, aI_88, aI_89, aI_90, aI_91, aI_92, aI_93, aI_94, aI_95, aI_96, aI_97, aI_98, aI_99, aI_100, aI_101, aI_102, aI_103, sI_P_5, sI_P_8, sI_T_0, sI_T_2, sI_T_3, sI_S_2, sI_2, sI_5, sI_7, sI_8, sI_10, sI_11, sI_12, sI_14, sI_15, sI_72, sI_75, sI_76, sI_77, sI_78, sI_79, sI_80, sI_81, sI_84, sI_85, sI_86, sI_87, sI_89, sI_90, sI_91, sI_92, sI_93, sI_94, sI_95, sI_98, sI_99, sI_100, sI_101, sI_102, sI_103, aJ_16, sJ_16, zk_some, zb_some, zlet_eq, zjn1_eq, zjn2_eq, zjn3_eq, zjn4_eq, zjn5_eq, zjn6_eq, zjn7_eq, ite_true, ite_false, reduceIte, Nat.reduceEqDiff, and_true, true_and, false_and, and_false, reduceCtorEq, eq_self, fa_lit, nI_ltI, nI_leI, nI_eq, nI_add, pk_mul, n_n1, n_sub1, n_shl2, n_and31, n_shr2, n_bit2, Nat.reduceLT, Nat.reduceLeDiff, Nat.reduceAdd, Nat.reduceMul, t3, h160]
  · refine zOk_same (v := -2) h ?_ ?_
    · unfold F_X_feed
      by_cases h1 : a < 1
      · rw [if_pos h1]
      · rw [if_neg h1, if_neg (show ¬ a ≤ 8 from fun h2 => ha ⟨Int32.not_lt.mp h1, h2⟩)]
    · unfold F_M_feed
      rw [show (1 : Int64) = (nI 1).toInt64 from rfl, show (8 : Int64) = (nI 8).toInt64 from rfl, n_in, if_neg ha]
      rfl
end S
