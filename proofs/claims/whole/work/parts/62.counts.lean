-- ===== what one counts: both =====
def zcfX (k m : Nat) : Option Int32 := if nI k = 1 then (some (zmin (nI m) 3)) else if nI k = 2 then (some (nI m)) else if nI k = 3 then (some ((zmin (nI m) 3) + 1)) else if nI k = 4 then (some ((2 : Int32) * nI m)) else if nI k = 5 then (some ((nI m + 1) / 2)) else (some (nI m))
def zcfM (k m : Nat) : Option Int32 := if nI k = 1 then (if nI m ≤ 3 then (some (nI m)) else (some 3)) else if nI k = 2 then (some (nI m)) else if nI k = 3 then (if nI m ≤ 3 then (some (nI m + 1)) else (some 4)) else if nI k = 4 then (some ((2 : Int32) * nI m)) else if nI k = 5 then (some ((nI m + 1) / 2)) else (some (nI m))
def zcf (k m : Nat) : Nat := if k = 1 then min m 3 else if k = 3 then min m 3 + 1 else if k = 4 then 2 * m else if k = 5 then (m + 1) / 2 else m
theorem zcfX_eq : ∀ k : Fin 6, ∀ m : Fin 7, zcfX k.1 m.1 = some (nI (zcf k.1 m.1)) ∧ zcfM k.1 m.1 = some (nI (zcf k.1 m.1)) := by decide +kernel
section S
variable {n p yr tx rl tp c : Nat} {μ : zS}
theorem counts_X {w : Nat} (h : zSt n p yr tx rl tp c μ) (hw : w < p) : F_Person_counts μ (18 + 3 * w) (some 1) = some (nI (zcf (μ.2.1 76 w).toNatClampNeg (zct (zCan μ.2.1 w) n))) := by
  obtain ⟨hf, hP, hPe, -⟩ := id h
  have hn6 := hP.1
  have hp7 := hPe.1
  have hw7 : w < 7 := by omega
  obtain ⟨k1, k2, -⟩ := hPe.2.2.2 w hw7 hw
  have hct := zct_le (zCan μ.2.1 w) n
  unfold F_Person_counts
  refine fix2_t n (fun i => nI (zct (zCan μ.2.1 w) i)) (fun i => nI i) ?_ ?_ (zFU_lt (by omega))
  · intro r i hi
    rw [gI_1 hf, zb_some, hP.2.1, if_neg (show ¬ nI n ≤ nI i by rw [nI_leI (by omega) (by omega)]; omega), fo_P hf hw7, zb_some, can_X h hw hi, zb_some, zct_s, show nI i + 1 = nI (i + 1) from nI_add i 1]
    cases zCan μ.2.1 w i
    · rfl
    · rw [if_neg (show ¬ b2 true = 0 by decide), show nI (zct (zCan μ.2.1 w) i) + 1 = nI (zct (zCan μ.2.1 w) i + 1) from nI_add _ 1]; rfl
  · intro r
    rw [gI_1 hf, zb_some, hP.2.1, if_pos (Int32.le_refl _), gI_P hf hw7, zb_some, k1]
    have := (zcfX_eq ⟨(μ.2.1 76 w).toNatClampNeg, by have := k2.1; omega⟩ ⟨zct (zCan μ.2.1 w) n, by omega⟩).1
    unfold zcfX at this
    dsimp only at this
    rw [← k2.2] at this
    exact this
theorem counts_M {w : Nat} (h : zSt n p yr tx rl tp c μ) (hw : w < p) : F_M_countsOf μ 73 (nI w) = some (nI (zcf (μ.2.1 76 w).toNatClampNeg (zct (zCan μ.2.1 w) n))) := by
  obtain ⟨hf, hP, hPe, -⟩ := id h
  have hn6 := hP.1
  have hp7 := hPe.1
  have hw7 : w < 7 := by omega
  obtain ⟨k1, k2, -⟩ := hPe.2.2.2 w hw7 hw
  have hct := zct_le (zCan μ.2.1 w) n
  unfold F_M_countsOf
  refine fix2_t n (fun i => nI (zct (zCan μ.2.1 w) i)) (fun i => nI i) ?_ ?_ (zFU_lt (by omega))
  · intro r i hi
    rw [gI_73 hf, zb_some, hP.2.2.1, if_neg (show ¬ nI n ≤ nI i by rw [nI_leI (by omega) (by omega)]; omega), fo_73 hf, zb_some, can_M h hw hi, zb_some, zct_s, show nI i + 1 = nI (i + 1) from nI_add i 1]
    cases zCan μ.2.1 w i
    · rw [if_pos (show b2 false = 0 by decide), show nI (zct (zCan μ.2.1 w) i) + 0 = nI (zct (zCan μ.2.1 w) i + 0) from nI_add _ 0]; rfl
    · rw [if_neg (show ¬ b2 true = 0 by decide), show nI (zct (zCan μ.2.1 w) i) + 1 = nI (zct (zCan μ.2.1 w) i + 1) from nI_add _ 1]; rfl
  · intro r
    rw [gI_73 hf, zb_some, hP.2.2.1, if_pos (Int32.le_refl _), gR_73_5 hf, zb_some, aI_76 hf hw7, zb_some]
    have := (zcfX_eq ⟨(μ.2.1 76 w).toNatClampNeg, by have := k2.1; omega⟩ ⟨zct (zCan μ.2.1 w) n, by omega⟩).2
    unfold zcfM at this
    dsimp only at this
    rw [← k2.2] at this
    exact this
end S
