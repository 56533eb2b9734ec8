-- ===== count, even =====
theorem bc_ok : ∀ b : Fin 64, (zlet ((nI b.1 - (((nI b.1 : Int32).toUInt32 >>> ((1 : Int32).toUInt32 &&& Int32.toUInt32 31)).toInt32 &&& 1431655765)) : Int32) fun x1 => zlet (((x1 &&& 858993459) + (((x1 : Int32).toUInt32 >>> ((2 : Int32).toUInt32 &&& Int32.toUInt32 31)).toInt32 &&& 858993459)) : Int32) fun x2 => zlet (((x2 + ((x2 : Int32).toUInt32 >>> ((4 : Int32).toUInt32 &&& Int32.toUInt32 31)).toInt32) &&& 252645135) : Int32) fun x3 => zlet ((x3 + ((x3 : Int32).toUInt32 >>> ((8 : Int32).toUInt32 &&& Int32.toUInt32 31)).toInt32) : Int32) fun x4 => zlet ((x4 + ((x4 : Int32).toUInt32 >>> ((16 : Int32).toUInt32 &&& Int32.toUInt32 31)).toInt32) : Int32) fun x5 => some (x5 &&& 63)) = some (nI (zct (fun q => b.1.testBit q) 6)) := by decide +kernel
section S
variable {n p yr tx rl tp c : Nat} {μ : zS}
theorem X_bc (u : zS) {b : Nat} (hb : b ≤ 63) : F_Integer_bitCount u (nI b) = some (nI (zct (fun q => b.testBit q) 6)) := bc_ok ⟨b, by omega⟩
def zsu (f : Nat → Nat) : Nat → Nat
  | 0 => 0
  | i + 1 => zsu f i + f i
theorem zsu_cg {f g : Nat → Nat} : ∀ {m : Nat}, (∀ i, i < m → f i = g i) → zsu f m = zsu g m
  | 0, _ => rfl
  | m + 1, h => by unfold zsu; rw [zsu_cg (fun i hi => h i (by omega)), h m (by omega)]
theorem X_all (hf : zFr μ) (hp : μ.2.1 0 2 = nI p) (hp7 : p ≤ 7) : F_X_lessonsOfAll μ 0 = some (nI (zsu (fun w => zct (fun q => !decide (μ.2.1 (19 + 3 * w) q = (-1))) 6) p)) := by
  unfold F_X_lessonsOfAll
  generalize hg : (fun w => zct (fun q => !decide (μ.2.1 (19 + 3 * w) q = (-1))) 6) = g
  refine fix2_t p (fun i => nI (zsu g i)) (fun i => nI i) ?_ ?_ (zFU_lt (by omega))
  · intro r i hi
    rw [gI_0 hf, zb_some, hp, if_neg (show ¬ nI p ≤ nI i by rw [nI_leI (by omega) (by omega)]; omega)]
    rw [gR_0_1 hf, zb_some, aR_3 hf (by omega), zb_some, fo_P hf (by omega), zb_some, X_had hf (by omega), zb_some, show nI i + 1 = nI (i + 1) from nI_add i 1, nI_add]
    show r (nI (zsu g i + _)) _ = r (nI (zsu g i + g i)) _
    rw [← hg]
  · intro r
    rw [gI_0 hf, zb_some, hp, if_pos (Int32.le_refl _)]
theorem K_count (h : zSt n p yr tx rl tp c μ) (a : Int32) : ∃ v, F_X_count μ 0 a = some v ∧ F_M_count μ 73 a = some v := by
  obtain ⟨hf, hP, hPe, hAs, hTa, hBa, hYr, hTp, hTx, hIm, hSh, hLt⟩ := id h
  have hn6 := hP.1
  have hp7 := hPe.1
  unfold F_X_count F_M_count
  by_cases a0 : a = 0
  · rw [if_pos a0, if_pos a0, gR_0_0 hf, zb_some, gI_1 hf, zb_some, gI_73 hf, zb_some, hP.2.1, hP.2.2.1]
    exact ⟨_, rfl, rfl⟩
  rw [if_neg a0, if_neg a0]
  by_cases a1 : a = 1
  · rw [if_pos a1, if_pos a1, gI_0 hf, zb_some, gI_73 hf, zb_some, hPe.2.1, hPe.2.2.1]
    exact ⟨_, rfl, rfl⟩
  rw [if_neg a1, if_neg a1]
  by_cases a2 : a = 2
  · rw [if_pos a2, if_pos a2, gR_0_0 hf, zb_some, gI_1 hf, zb_some, gI_73 hf, zb_some, hYr.2.1, hYr.2.2]
    exact ⟨_, rfl, rfl⟩
  rw [if_neg a2, if_neg a2]
  by_cases a3 : a = 3
  · rw [if_pos a3, if_pos a3, gI_0 hf, zb_some, gI_73 hf, zb_some, hTx.2.2.1, hTx.2.2.2.1]
    exact ⟨_, rfl, rfl⟩
  rw [if_neg a3, if_neg a3]
  by_cases a4 : a = 4
  · rw [if_pos a4, if_pos a4, gR_0_3 hf, zb_some, gI_71 hf, zb_some, gI_73 hf, zb_some, hTp.2.1, hTp.2.2.1]
    exact ⟨_, rfl, rfl⟩
  rw [if_neg a4, if_neg a4]
  by_cases a5 : a = 5
  · rw [if_pos a5, if_pos a5, gI_0 hf, zb_some, gI_73 hf, zb_some, hTx.2.2.2.2.2.1, hTx.2.2.2.2.2.2.1]
    exact ⟨_, rfl, rfl⟩
  rw [if_neg a5, if_neg a5]
  by_cases a6 : a = 6
  · obtain ⟨b, hb, hbe, hbc⟩ := zRg_ex hP.2.2.2.2.2.1
    have hbits := hP.2.2.2.2.2.2.1
    rw [hbc] at hbits
    have eqc : zct (fun q => b.testBit q) 6 = zct (fun q => !decide (μ.2.1 74 q = 0)) n := by
      rw [zct_z (m := n) hn6]
      · refine zct_cg (fun q hq => ?_)
        rw [hbits q (by omega)]
        rcases hP.2.2.2.1 q (by omega) with z | z <;> rw [z] <;> rfl
      · intro q q1 q2
        show b.testBit q = false
        rw [hbits q q2, hP.2.2.2.2.1 q q2 q1]; rfl
    refine ⟨nI (zct (fun q => b.testBit q) 6), ?_, ?_⟩
    · rw [if_pos a6, gR_0_0 hf, zb_some, gI_1 hf, zb_some, hbe, X_bc μ (by omega)]; rfl
    · rw [if_pos a6, eqc]
      generalize hP2 : (fun q => !decide (μ.2.1 74 q = 0)) = P
      refine fix2_t n (fun i => nI (zct P i)) (fun i => nI i) ?_ ?_ (zFU_lt (by omega))
      · intro r i hi
        have h2 : P i = !decide (μ.2.1 74 i = 0) := by rw [← hP2]
        rw [gI_73 hf, zb_some, hP.2.2.1, if_neg (show ¬ nI n ≤ nI i by rw [nI_leI (by omega) (by omega)]; omega)]
        rw [gR_73_2 hf, zb_some, aI_74 hf (by omega), zb_some, zct_s, h2, show nI i + 1 = nI (i + 1) from nI_add i 1]
        by_cases h3 : μ.2.1 74 i = 0
        · rw [if_pos h3, show nI (zct P i) + 0 = nI (zct P i + 0) from nI_add _ 0]; simp [h3]
        · rw [if_neg h3, show nI (zct P i) + 1 = nI (zct P i + 1) from nI_add _ 1]; simp [h3]
      · intro r
        rw [gI_73 hf, zb_some, hP.2.2.1, if_pos (Int32.le_refl _)]
  rw [if_neg a6, if_neg a6]
  by_cases a7 : a = 7
  · refine ⟨nI (zsu (fun w => zct (fun q => !decide (μ.2.1 (19 + 3 * w) q = (-1))) 6) p), ?_, ?_⟩
    · rw [if_pos a7, fo_0 hf, zb_some, X_all hf hPe.2.1 hp7]; rfl
    · rw [if_pos a7, zsu_cg (g := fun w => zct (fun q => !decide (μ.2.1 82 (6 * w + q) = 0)) n) (fun w hw => zhad_eq hTa (by omega) hn6)]
      generalize hg : (fun w => zct (fun q => !decide (μ.2.1 82 (6 * w + q) = 0)) n) = g
      refine fix2_t p (fun i => nI (zsu g i)) (fun i => nI i) ?_ ?_ (zFU_lt (by omega))
      · intro r i hi
        rw [gI_73 hf, zb_some, hPe.2.2.1, if_neg (show ¬ nI p ≤ nI i by rw [nI_leI (by omega) (by omega)]; omega)]
        rw [fo_73 hf, zb_some, M_had hf (by omega) hP.2.2.1 hn6, zb_some, show nI i + 1 = nI (i + 1) from nI_add i 1, nI_add]
        show r (nI (zsu g i + _)) _ = r (nI (zsu g i + g i)) _
        rw [← hg]
      · intro r
        rw [gI_73 hf, zb_some, hPe.2.2.1, if_pos (Int32.le_refl _)]
  rw [if_neg a7, if_neg a7]
  exact ⟨_, rfl, rfl⟩
end S
