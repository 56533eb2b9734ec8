-- ===== image: the reference's side =====
def ztri (A B C : Nat) (f g h : Nat → Int32) (μ : zS) : Nat → zS
  | 0 => μ
  | i + 1 => zuI (zuI (zuI (ztri A B C f g h μ i) A i (f i)) B i (g i)) C i (h i)
section S
variable {n p yr tx rl tp c : Nat} {μ : zS}
theorem ztri_fr {A B C : Nat} {f g h : Nat → Int32} (hf : zFr μ) : ∀ i, zFr (ztri A B C f g h μ i)
  | 0 => hf
  | i + 1 => fr_uI (fr_uI (fr_uI (ztri_fr hf i)))
theorem ztri_at {A B C : Nat} {f g h : Nat → Int32} (h1 : A ≠ B) (h2 : A ≠ C) (h3 : B ≠ C) (a k : Nat) : ∀ i, (ztri A B C f g h μ i).2.1 a k = if a = A ∧ k < i then f k else if a = B ∧ k < i then g k else if a = C ∧ k < i then h k else μ.2.1 a k
  | 0 => by rw [if_neg (by omega), if_neg (by omega), if_neg (by omega)]; rfl
  | i + 1 => by
    show (zuI (zuI (zuI (ztri A B C f g h μ i) A i (f i)) B i (g i)) C i (h i)).2.1 a k = _
    rw [uI_at, uI_at, uI_at, ztri_at h1 h2 h3 a k i]
    by_cases q : k = i
    · subst q
      by_cases q3 : a = C
      · rw [if_pos ⟨q3, rfl⟩, if_neg (by omega), if_neg (by omega), if_pos (by omega)]
      · rw [if_neg (by omega)]
        by_cases q2 : a = B
        · rw [if_pos ⟨q2, rfl⟩, if_neg (by omega), if_pos (by omega)]
        · rw [if_neg (by omega)]
          by_cases q1 : a = A
          · rw [if_pos ⟨q1, rfl⟩, if_pos (by omega)]
          · rw [if_neg (by omega), if_neg (by omega), if_neg (by omega), if_neg (by omega), if_neg (by omega), if_neg (by omega), if_neg (by omega)]
    · rw [if_neg (by omega), if_neg (by omega), if_neg (by omega)]
      have e : (k < i + 1) = (k < i) := by simp only [eq_iff_iff]; omega
      simp only [e]
def zimM0 (μ : zS) (p yr rl : Nat) : zS := zuI (zuI (zuI (zuI μ 73 41 1) 73 42 (nI p)) 73 43 (nI yr)) 73 44 (nI rl)
def zimM (μ : zS) (p yr rl : Nat) : zS := zfg 98 0 (μ.2.1 80) (ztri 95 96 97 (μ.2.1 81) (μ.2.1 82) (μ.2.1 83) (zimM0 μ p yr rl) 42) 7
theorem zimM0_off {a k : Nat} (h : a ≠ 73) : (zimM0 μ p yr rl).2.1 a k = μ.2.1 a k := by
  unfold zimM0
  rw [uI_at, uI_at, uI_at, uI_at, if_neg (by omega), if_neg (by omega), if_neg (by omega), if_neg (by omega)]
theorem M_image_ok (hf : zFr μ) (hp : μ.2.1 73 4 = nI p) (hy : μ.2.1 73 10 = nI yr) (hr : μ.2.1 73 17 = nI rl) (h82 : ∀ k, k < 42 → μ.2.1 82 k = 0 ∨ μ.2.1 82 k = 1) (h83 : ∀ k, k < 42 → μ.2.1 83 k = 0 ∨ μ.2.1 83 k = 1) : F_M_image μ 73 = some (nI yr, zimM μ p yr rl) := by
  unfold F_M_image zimM
  simp (disch := first | omega | assumption | exact Or.inl rfl | exact Or.inr rfl | (repeat (first | assumption | apply fr_uI | apply fr_uJ)) ) only [pZ_73, gI_73, pI_73, zb_some, uI_at, hp, hy, hr, Nat.reduceEqDiff, and_false, and_true, if_true, if_false, reduceIte]
  show zfix2 _ zFU (zimM0 μ p yr rl) 0 = _
  have hf0 : zFr (zimM0 μ p yr rl) := fr_uI (fr_uI (fr_uI (fr_uI hf)))
  have hy0 : (zimM0 μ p yr rl).2.1 73 10 = nI yr := hy
  refine fix2_t 42 (fun i => ztri 95 96 97 (μ.2.1 81) (μ.2.1 82) (μ.2.1 83) (zimM0 μ p yr rl) i) (fun i => nI i) ?_ ?_ (zFU_lt (by omega))
  · intro r i hi
    have hfi := ztri_fr (A := 95) (B := 96) (C := 97) (f := μ.2.1 81) (g := μ.2.1 82) (h := μ.2.1 83) hf0 i
    have v81 : (ztri 95 96 97 (μ.2.1 81) (μ.2.1 82) (μ.2.1 83) (zimM0 μ p yr rl) i).2.1 81 i = μ.2.1 81 i := by rw [ztri_at (by decide) (by decide) (by decide), if_neg (by omega), if_neg (by omega), if_neg (by omega), zimM0_off (by decide)]
    have v82 : (ztri 95 96 97 (μ.2.1 81) (μ.2.1 82) (μ.2.1 83) (zimM0 μ p yr rl) i).2.1 82 i = μ.2.1 82 i := by rw [ztri_at (by decide) (by decide) (by decide), if_neg (by omega), if_neg (by omega), if_neg (by omega), zimM0_off (by decide)]
    have v83 : (ztri 95 96 97 (μ.2.1 81) (μ.2.1 82) (μ.2.1 83) (zimM0 μ p yr rl) i).2.1 83 i = μ.2.1 83 i := by rw [ztri_at (by decide) (by decide) (by decide), if_neg (by omega), if_neg (by omega), if_neg (by omega), zimM0_off (by decide)]
    have w82 := h82 i hi
    have w83 := h83 i hi
    rw [if_neg (show ¬ (42 : Int32) ≤ nI i by rw [show (42 : Int32) = nI 42 from rfl, nI_leI (by omega) (by omega)]; omega)]
    rw [gR_73_45 hfi, zb_some, gR_73_11 hfi, zb_some, aI_81 hfi hi, zb_some, sI_95 hfi hi, zb_some, v81]
    rw [gR_73_46 (fr_uI hfi), zb_some, gR_73_12 (fr_uI hfi), zb_some, aI_82 (fr_uI hfi) hi, zb_some, uI_at, if_neg (by omega), v82, sZ_96 (fr_uI hfi) hi w82, zb_some]
    rw [gR_73_47 (fr_uI (fr_uI hfi)), zb_some, gR_73_13 (fr_uI (fr_uI hfi)), zb_some, aI_83 (fr_uI (fr_uI hfi)) hi, zb_some, uI_at, if_neg (by omega), uI_at, if_neg (by omega), v83, sZ_97 (fr_uI (fr_uI hfi)) hi w83, zb_some, show nI i + 1 = nI (i + 1) from nI_add i 1]
    rfl
  · intro r
    rw [if_pos (show (42 : Int32) ≤ nI 42 by decide)]
    generalize hμ1 : ztri 95 96 97 (μ.2.1 81) (μ.2.1 82) (μ.2.1 83) (zimM0 μ p yr rl) 42 = μ1
    have hf1 : zFr μ1 := by rw [← hμ1]; exact ztri_fr hf0 42
    have o1 : ∀ k, μ1.2.1 80 k = μ.2.1 80 k := by intro k; rw [← hμ1, ztri_at (by decide) (by decide) (by decide), if_neg (by omega), if_neg (by omega), if_neg (by omega), zimM0_off (by decide)]
    have o2 : μ1.2.1 73 10 = nI yr := by rw [← hμ1, ztri_at (by decide) (by decide) (by decide), if_neg (by omega), if_neg (by omega), if_neg (by omega)]; exact hy0
    refine fix2_t 7 (fun i => zfg 98 0 (μ.2.1 80) μ1 i) (fun i => nI i) ?_ ?_ (zFU_lt (by omega))
    · intro r i hi
      have hfi := zfg_fr (A := 98) (b := 0) (f := μ.2.1 80) hf1 i
      rw [if_neg (show ¬ (7 : Int32) ≤ nI i by rw [show (7 : Int32) = nI 7 from rfl, nI_leI (by omega) (by omega)]; omega)]
      rw [gR_73_48 hfi, zb_some, gR_73_9 hfi, zb_some, aI_80 hfi hi, zb_some, sI_98 hfi hi, zb_some, zfg_at, if_neg (by omega), o1, show nI i + 1 = nI (i + 1) from nI_add i 1]
      show r (zuI _ _ i _) _ = r (zuI _ _ (0 + i) _) _
      rw [Nat.zero_add]
    · intro r
      have hfi := zfg_fr (A := 98) (b := 0) (f := μ.2.1 80) hf1 7
      rw [if_pos (show (7 : Int32) ≤ nI 7 by decide), gI_73 hfi, zb_some, zfg_at, if_neg (by omega), o2]
end S
