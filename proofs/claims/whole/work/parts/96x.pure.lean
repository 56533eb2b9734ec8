-- ===== the law's body, all of it =====
theorem F_L_eq {L : Nat} {xs : Nat → Int32} {u0 u3 u6 : zS} (h0 : u0.1.length = 0) (hx : F_X_init (zNew u0 (.inr 8)) 0 = some u3) (h3 : u3.1.length = 73) (hm : F_M_init (zNew u3 (.inr 9)) 73 = some u6) : F_L_law L xs u0 = zfix2 (F_L_body L xs 0 73) zFU u6 0 := by
  unfold F_L_law znw
  rw [zb_some, zk_ap, h0, hx, zb_some, zb_some, zk_ap, h3, hm, zb_some]
theorem zStart_inv {u0 μ : zS} (h0 : u0.1.length = 0) (h : zStart u0 = some μ) : ∃ u3, F_X_init (zNew u0 (.inr 8)) 0 = some u3 ∧ F_M_init (zNew u3 (.inr 9)) u3.1.length = some μ := by
  unfold zStart znw at h
  rw [zb_some, zk_ap, h0] at h
  generalize F_X_init (zNew u0 (.inr 8)) 0 = q at h ⊢
  cases q with
  | none => cases h
  | some u3 =>
    refine ⟨u3, rfl, ?_⟩
    rw [zb_some, zb_some, zk_ap] at h
    generalize F_M_init (zNew u3 (.inr 9)) u3.1.length = q at h ⊢
    cases q with
    | none => cases h
    | some u6 => exact h
def zlenX (q : Option zS) : Bool := match q with | some u => decide (u.1.length = 73) | none => false
theorem zlenX_s {q : Option zS} {u : zS} (h : zlenX q = true) (hq : q = some u) : u.1.length = 73 := by
  subst hq
  exact of_decide_eq_true h
theorem zlen0 : zlenX (F_X_init (zNew z00 (.inr 8)) 0) = true := by decide +kernel
/-- ALL OF IT: the law's body ends with 1 -/
theorem zpure (L : Nat) (xs : Nat → Int32) (hL : L ≤ 3072) : ∃ μ1 : zS, F_L_law L xs z00 = some (1, μ1) := by
  obtain ⟨μ, h1, h2⟩ := zbegin
  obtain ⟨μ1, h3⟩ := L_loop (xs := xs) hL (L / 6) 0 zFU μ (by omega) (by unfold zFU; omega) (Nat.zero_le _) ⟨0, 0, 0, 1, 0, 0, h2⟩
  refine ⟨μ1, ?_⟩
  have h0 : z00.1.length = 0 := rfl
  obtain ⟨u3, a1, a2⟩ := zStart_inv h0 h1
  have h5 := zlenX_s zlen0 a1
  rw [h5] at a2
  exact (F_L_eq h0 a1 h5 a2).trans h3
