-- ===== even =====
theorem tnc_lt (x : Int32) : x.toNatClampNeg < 2 ^ 31 := by
  have h := Int32.toInt_lt x
  have h2 : x.toNatClampNeg = x.toInt.toNat := rfl
  omega
theorem zmax_nI {a b : Nat} (ha : a < 2 ^ 31) (hb : b < 2 ^ 31) : zmax (nI a) (nI b) = nI (max a b) := by
  unfold zmax
  by_cases h : a < b
  · rw [if_pos ((nI_ltI ha hb).mpr h), Nat.max_eq_right (by omega)]
  · rw [if_neg (fun q => h ((nI_ltI ha hb).mp q)), Nat.max_eq_left (by omega)]
theorem zmin_nI {a b : Nat} (ha : a < 2 ^ 31) (hb : b < 2 ^ 31) : zmin (nI a) (nI b) = nI (min a b) := by
  unfold zmin
  by_cases h : b < a
  · rw [if_pos ((nI_ltI hb ha).mpr h), Nat.min_eq_right (by omega)]
  · rw [if_neg (fun q => h ((nI_ltI hb ha).mp q)), Nat.min_eq_left (by omega)]
def zmx (A : Nat → Nat) : Nat → Nat
  | 0 => 0
  | k + 1 => max (zmx A k) (A k)
def zmn (A : Nat → Nat) : Nat → Nat
  | 0 => A 0
  | k + 1 => min (zmn A k) (A k)
theorem zmx_lt {A : Nat → Nat} (h : ∀ i, A i < 2 ^ 31) : ∀ k, zmx A k < 2 ^ 31
  | 0 => by unfold zmx; omega
  | k + 1 => by have := zmx_lt h k; have := h k; unfold zmx; omega
theorem zmn_lt {A : Nat → Nat} (h : ∀ i, A i < 2 ^ 31) : ∀ k, zmn A k < 2 ^ 31
  | 0 => h 0
  | k + 1 => by have := zmn_lt h k; have := h k; unfold zmn; omega
section S
variable {n p yr tx rl tp c : Nat} {μ : zS}
theorem K_even (h : zSt n p yr tx rl tp c μ) : ∃ v, F_X_even μ 0 = some v ∧ F_M_even μ 73 = some v := by
  obtain ⟨hf, hP, hPe, hAs, hTa, hBa, hYr, hTp, hTx, hIm, hSh, hLt⟩ := id h
  have hp7 := hPe.1
  have hA : ∃ A : Nat → Nat, (∀ i, A i < 2 ^ 31) ∧ ∀ w, w < 7 → μ.2.1 (18 + 3 * w) 4 = nI (A w) ∧ μ.2.1 80 w = nI (A w) := by
    refine ⟨fun w => (μ.2.1 80 w).toNatClampNeg, fun i => tnc_lt _, fun w hw => ?_⟩
    obtain ⟨q1, q2, q3⟩ := hAs w hw
    exact ⟨q1.trans q2.2, q2.2⟩
  obtain ⟨A, hA1, hA2⟩ := hA
  by_cases hp0 : p = 0
  · subst hp0
    refine ⟨-1, ?_, ?_⟩
    · unfold F_X_even
      rw [gI_0 hf, zb_some, hPe.2.1, if_pos (show nI 0 = 0 from rfl)]
    · unfold F_M_even
      refine fix3_t 0 (fun _ => -1) (fun _ => 0) (fun _ => 0) ?_ ?_ (zFU_lt (by omega))
      · intro r i hi; omega
      · intro r
        rw [gI_73 hf, zb_some, hPe.2.2.1, if_pos (show nI 0 ≤ 0 by decide), if_neg (show ¬ (0 : Int32) ≤ -1 by decide)]
  · refine ⟨nI (zmx A p) - nI (zmn A p), ?_, ?_⟩
    · unfold F_X_even
      rw [gI_0 hf, zb_some, hPe.2.1, if_neg (show ¬ nI p = 0 from fun q => hp0 (nI_inj (b := 0) (by omega) (by decide) q))]
      have e0 : zaR μ "PostsFilled$Person" (some 3) 0 = some (some (18 + 3 * 0)) := aR_3 (w := 0) hf (by decide)
      simp only [gR_0_1 hf, zb_some, e0, gI_P hf (show 0 < 7 by decide), (hA2 0 (by decide)).1]
      have key := fix3_t (p - 1) (out := some (nI (zmx A p) - nI (zmn A p))) (N := zFU) (b := fun (r8 : Int32 → Int32 → Int32 → Option (Int32)) (x9 : Int32) (x10 : Int32) (x11 : Int32) => if nI p ≤ x11 then (some (x9 - x10)) else ((zaR μ "PostsFilled$Person" (some 3) x11).bind fun v14 => (zgI μ 3 v14 4).bind fun v15 => (zaR μ "PostsFilled$Person" (some 3) x11).bind fun v17 => (zgI μ 3 v17 4).bind fun v18 => r8 (zmax x9 v15) (zmin x10 v18) (x11 + 1))) (fun i => nI (zmx A (i + 1))) (fun i => nI (zmn A (i + 1))) (fun i => nI (i + 1)) ?_ ?_ (zFU_lt (by omega))
      · have s1 : zmx A (0 + 1) = A 0 := by show max 0 (A 0) = A 0; omega
        have s2 : zmn A (0 + 1) = A 0 := by show min (A 0) (A 0) = A 0; omega
        rw [s1, s2] at key
        exact key
      · intro r i hi
        rw [if_neg (show ¬ nI p ≤ nI (i + 1) by rw [nI_leI (by omega) (by omega)]; omega)]
        simp only [aR_3 hf (show i + 1 < 7 by omega), zb_some, gI_P hf (show i + 1 < 7 by omega), (hA2 (i + 1) (show i + 1 < 7 by omega)).1]
        rw [zmax_nI (zmx_lt hA1 _) (hA1 _), zmin_nI (zmn_lt hA1 _) (hA1 _), show nI (i + 1) + 1 = nI (i + 1 + 1) from nI_add _ 1]
        rfl
      · intro r
        rw [show p - 1 + 1 = p by omega, if_pos (Int32.le_refl _)]
    · unfold F_M_even
      refine fix3_t p (fun i => if i = 0 then -1 else nI (zmn A i)) (fun i => nI (zmx A i)) (fun i => nI i) ?_ ?_ (zFU_lt (by omega))
      · intro r i hi
        rw [gI_73 hf, zb_some, hPe.2.2.1, if_neg (show ¬ nI p ≤ nI i by rw [nI_leI (by omega) (by omega)]; omega)]
        simp only [gR_73_9 hf, zb_some, aI_80 hf (show i < 7 by omega), (hA2 i (by omega)).2, show nI i + 1 = nI (i + 1) from nI_add _ 1, zjn1_eq]
        have m1 : ∀ F : Int32 → Option Int32, (if nI (A i) ≤ nI (zmx A i) then F (nI (zmx A i)) else F (nI (A i))) = F (nI (zmx A (i + 1))) := by
          intro F
          by_cases q : A i ≤ zmx A i
          · rw [if_pos ((nI_leI (hA1 i) (zmx_lt hA1 i)).mpr q), show zmx A (i + 1) = zmx A i from Nat.max_eq_left q]
          · rw [if_neg (fun z => q ((nI_leI (hA1 i) (zmx_lt hA1 i)).mp z)), show zmx A (i + 1) = A i from Nat.max_eq_right (by omega)]
        by_cases hi0 : i = 0
        · subst hi0
          have s2 : zmn A (0 + 1) = A 0 := by show min (A 0) (A 0) = A 0; omega
          rw [if_pos rfl, if_pos (show (-1 : Int32) < 0 by decide), if_neg (show ¬ 0 + 1 = 0 by decide), s2]
          exact m1 (fun x => r (nI (A 0)) x (nI (0 + 1)))
        · rw [if_neg hi0, if_neg (show ¬ i + 1 = 0 by omega), if_neg (nI_lt0 (zmn_lt hA1 i))]
          by_cases q : zmn A i ≤ A i
          · rw [if_pos ((nI_leI (zmn_lt hA1 i) (hA1 i)).mpr q), show zmn A (i + 1) = zmn A i from Nat.min_eq_left q]
            exact m1 (fun x => r (nI (zmn A i)) x (nI (i + 1)))
          · rw [if_neg (fun z => q ((nI_leI (zmn_lt hA1 i) (hA1 i)).mp z)), show zmn A (i + 1) = A i from Nat.min_eq_right (by omega)]
            exact m1 (fun x => r (nI (A i)) x (nI (i + 1)))
      · intro r
        rw [gI_73 hf, zb_some, hPe.2.2.1, if_pos (Int32.le_refl _), if_neg hp0, if_pos (nI_nn (zmn_lt hA1 p))]
end S
