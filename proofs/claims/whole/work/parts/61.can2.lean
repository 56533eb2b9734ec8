-- ===== who can do what: both =====
/-- whether one can do a post, as the relation's places say it -/
def zCan (e : Nat → Nat → Int32) (w q : Nat) : Bool := zcn (e 73 10).toNatClampNeg (e 76 w).toNatClampNeg (e 77 w).toNatClampNeg (e 78 w).toNatClampNeg (decide (e 83 (6 * w + q) = 1)) (e 82 (6 * w + q)) (e 81 (6 * w + q)) (decide (e 74 q = 1)) (e 75 q).toNatClampNeg q
theorem b2_dec {x : Int32} (h : x = 0 ∨ x = 1) : x = b2 (decide (x = 1)) := by rcases h with rfl | rfl <;> rfl
section S
variable {n p yr tx rl tp c : Nat} {μ : zS}
theorem can_X {w q : Nat} (h : zSt n p yr tx rl tp c μ) (hw : w < p) (hq : q < n) : F_Person_can μ (18 + 3 * w) (nI q) (some 1) = some (b2 (zCan μ.2.1 w q)) := by
  obtain ⟨hf, hP, hPe, hAs, hTa, hBa, hYr, hTp, hTx, hIm, hSh, hLt⟩ := id h
  have hn6 := hP.1
  have hp7 := hPe.1
  obtain ⟨k1, k2, k3, k4, k5, k6, k7, -⟩ := hPe.2.2.2 w (by omega) hw
  have hb := (hBa w (by omega)).1
  have hv := hP.2.2.2.2.2.2.2 q (by omega) hq
  have hm := hP.2.2.2.2.2.1
  have hmb := hP.2.2.2.2.2.2.1 q (by omega)
  have hyr : (μ.2.1 73 10).toNatClampNeg = yr := by rw [hYr.2.2]; exact nI_clamp (by have := hYr.1; omega)
  have hX := X_can (yr := yr) (n := n) hf (show w < 7 by omega) (show q < 6 by omega) (k1.trans k2.2) (by have := k2.1; omega) (k3.trans k4.2) (by have := k4.1; omega) (k6.trans k7.2) hb.1.2 hb.1.1 hm.2 hm.1 (hv.1.trans hv.2.2) hv.2.1 hYr.2.1 (hTa w (by omega) q (by omega)).1
  rw [hX, hmb, (hb.2 q (by omega)).2]
  unfold zCan
  rw [hyr]
theorem can_M {w q : Nat} (h : zSt n p yr tx rl tp c μ) (hw : w < p) (hq : q < n) : F_M_canDo μ 73 (nI w) (nI q) = some (b2 (zCan μ.2.1 w q)) := by
  obtain ⟨hf, hP, hPe, hAs, hTa, hBa, hYr, hTp, hTx, hIm, hSh, hLt⟩ := id h
  have hn6 := hP.1
  have hp7 := hPe.1
  obtain ⟨k1, k2, k3, k4, k5, k6, k7, -⟩ := hPe.2.2.2 w (by omega) hw
  have hb := ((hBa w (by omega)).1.2 q (by omega)).1
  have hv := hP.2.2.2.2.2.2.2 q (by omega) hq
  have hm := hP.2.2.2.1 q (by omega)
  have ht01 : μ.2.1 82 (6 * w + q) = 0 ∨ μ.2.1 82 (6 * w + q) = 1 := by
    rcases (hTa w (by omega) q (by omega)).1 with z | z
    · exact Or.inl z.1
    · exact Or.inr z.1
  have hyr : (μ.2.1 73 10).toNatClampNeg = yr := by rw [hYr.2.2]; exact nI_clamp (by have := hYr.1; omega)
  have hM := M_can (yr := yr) hf (show w < 7 by omega) (show q < 6 by omega) k2.2 (by have := k2.1; omega) k4.2 (by have := k4.1; omega) k7.2 (b2_dec hb) (b2_dec hm) hv.2.2 hv.2.1 hYr.2.2 rfl ht01 rfl
  rw [hM]
  unfold zCan
  rw [hyr]
end S
