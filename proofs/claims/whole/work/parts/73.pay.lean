-- ===== pay =====
def zWg (e : Nat → Nat → Int32) (n rl w : Nat) : Nat := zPayV e rl w (e 77 w).toNatClampNeg * zcf (e 76 w).toNatClampNeg (zct (zCan e w) n)
theorem zct_c {P P' : Nat → Bool} (h : ∀ q, P' q = P q) (n : Nat) : zct P' n = zct P n := by
  have : P' = P := funext h
  rw [this]
theorem zWg_c {e e' : Nat → Nat → Int32} (h : zDt e e') (n rl w : Nat) : zWg e' n rl w = zWg e n rl w := by
  unfold zWg zPayV
  rw [zVal_c h, h 77 _ (by omega), h 76 _ (by omega), zct_c (fun q => zCan_c h w q)]
/-- the sum of the pay of the first so many -/
def yWs (e : Nat → Nat → Int32) (n rl : Nat) : Nat → Nat
  | 0 => 0
  | i + 1 => yWs e n rl i + zWg e n rl i
section S
variable {n p yr tx rl tp c : Nat} {μ : zS}
theorem X_wages {w : Nat} (h : zSt n p yr tx rl tp c μ) (hw : w < p) : ∃ μ1, F_X_wages μ 0 (some (18 + 3 * w)) = some (nI (zWg μ.2.1 n rl w), μ1) ∧ zNX μ μ1 := by
  obtain ⟨hf, hP, hPe, hAs, hTa, hBa, hYr, hTp, hTx, hIm, hSh, hLt⟩ := id h
  have hp7 := hPe.1
  have hw7 : w < 7 := by omega
  obtain ⟨k1, k2, k3, k4, k5, k6, k7, k8, k9⟩ := hPe.2.2.2 w hw7 hw
  obtain ⟨μ1, x1, x2⟩ := X_val h hw k5 (part := 2) (by decide)
  have h1 := zSt_ag h (zAg_X x2)
  refine ⟨μ1, ?_, x2⟩
  have e5 := counts_X h1 hw
  rw [zDt_X x2 76 w (by omega), zct_c (fun q => zCan_c (zDt_X x2) w q)] at e5
  unfold F_X_wages
  rw [gI_P hf hw7, zb_some, k3, fo_0 hf, zb_some, show (2 : Int32) = nI 2 from rfl]
  rw [← k4.2] at x1
  rw [x1, zk_some, X_bnd (by decide), zb_some, gR_0_0 h1.1, zb_some, fo_P h1.1 hw7, zb_some, e5, zb_some, (zPay_e μ.2.1 rl w _).1, pk_mul]
  rfl
theorem M_wages {w : Nat} (h : zSt n p yr tx rl tp c μ) (hw : w < p) : ∃ v μ1, F_M_payOf μ 73 (nI w) = some (v, μ1) ∧ zNM μ μ1 ∧ F_M_countsOf μ1 73 (nI w) = some (nI (zcf (μ.2.1 76 w).toNatClampNeg (zct (zCan μ.2.1 w) n))) ∧ v * nI (zcf (μ.2.1 76 w).toNatClampNeg (zct (zCan μ.2.1 w) n)) = nI (zWg μ.2.1 n rl w) := by
  obtain ⟨hf, hP, hPe, hAs, hTa, hBa, hYr, hTp, hTx, hIm, hSh, hLt⟩ := id h
  have hp7 := hPe.1
  have hw7 : w < 7 := by omega
  obtain ⟨k1, k2, k3, k4, k5, k6, k7, k8, k9⟩ := hPe.2.2.2 w hw7 hw
  obtain ⟨μ1, x1, x2⟩ := M_val h hw k5 (part := 2) (by decide)
  have h1 := zSt_ag h (zAg_M x2)
  have e5 := counts_M h1 hw
  rw [zDt_M x2 76 w (by omega), zct_c (fun q => zCan_c (zDt_M x2) w q)] at e5
  refine ⟨nI (zPayV μ.2.1 rl w (μ.2.1 77 w).toNatClampNeg), μ1, ?_, x2, e5, ?_⟩
  · unfold F_M_payOf
    rw [← k4.2] at x1
    rw [gR_73_6 hf, zb_some, aI_77 hf hw7, zb_some, fo_73 hf, zb_some, show (2 : Int32) = nI 2 from rfl, x1, zk_some, M_hld, zb_some, (zPay_e μ.2.1 rl w _).1]
  · rw [pk_mul]; rfl
theorem X_payall (h : zSt n p yr tx rl tp c μ) : ∃ μ1, F_X_pay μ 0 (-1) = some (nI (yWs μ.2.1 n rl p), μ1) ∧ zNX μ μ1 := by
  unfold F_X_pay
  rw [if_pos rfl, if_pos rfl]
  refine fix3_p (b := _) p (fun i u x y => zNX μ u ∧ x = nI (yWs μ.2.1 n rl i) ∧ y = nI i) (fun o => ∃ μ1, o = some (nI (yWs μ.2.1 n rl p), μ1) ∧ zNX μ μ1) ?_ ?_ (zFU_lt (by have := h.2.2.1.1; omega)) ⟨zNX_rf h.1, rfl, rfl⟩
  · rintro r i u x y hi ⟨hu, rfl, rfl⟩
    have h1 := zSt_ag h (zAg_X hu)
    have hp7 := h1.2.2.1.1
    obtain ⟨μ1, x1, x2⟩ := X_wages h1 hi
    refine Or.inl ⟨μ1, nI (yWs μ.2.1 n rl (i + 1)), nI (i + 1), ⟨zNX_tr hu x2, rfl, rfl⟩, ?_⟩
    rw [gI_0 h1.1, zb_some, h1.2.2.1.2.1, if_neg (show ¬ nI p ≤ nI i by rw [nI_leI (by omega) (by omega)]; omega), gR_0_1 h1.1, zb_some, aR_3 h1.1 (by omega), zb_some, fo_0 h1.1, zb_some, x1, zk_some, nI_add, zWg_c (zDt_X hu), show nI i + 1 = nI (i + 1) from nI_add i 1]
    rfl
  · rintro r u x y ⟨hu, rfl, rfl⟩
    have h1 := zSt_ag h (zAg_X hu)
    refine ⟨u, ?_, hu⟩
    rw [gI_0 h1.1, zb_some, h1.2.2.1.2.1, if_pos (Int32.le_refl _)]
theorem M_payall (h : zSt n p yr tx rl tp c μ) : ∃ μ1, F_M_pay μ 73 (-1) = some (nI (yWs μ.2.1 n rl p), μ1) ∧ zNM μ μ1 := by
  unfold F_M_pay
  rw [if_pos rfl]
  refine fix3_p (b := _) p (fun i u x y => zNM μ u ∧ x = nI (yWs μ.2.1 n rl i) ∧ y = nI i) (fun o => ∃ μ1, o = some (nI (yWs μ.2.1 n rl p), μ1) ∧ zNM μ μ1) ?_ ?_ (zFU_lt (by have := h.2.2.1.1; omega)) ⟨zNM_rf h.1, rfl, rfl⟩
  · rintro r i u x y hi ⟨hu, rfl, rfl⟩
    have h1 := zSt_ag h (zAg_M hu)
    have hp7 := h1.2.2.1.1
    obtain ⟨v, μ1, x1, x2, x3, x4⟩ := M_wages h1 hi
    refine Or.inl ⟨μ1, nI (yWs μ.2.1 n rl (i + 1)), nI (i + 1), ⟨zNM_tr hu x2, rfl, rfl⟩, ?_⟩
    rw [gI_73 h1.1, zb_some, h1.2.2.1.2.2.1, if_neg (show ¬ nI p ≤ nI i by rw [nI_leI (by omega) (by omega)]; omega), fo_73 h1.1, zb_some, x1, zk_some, fo_73 x2.1, zb_some, x3, zb_some, x4, nI_add, zWg_c (zDt_M hu), show nI i + 1 = nI (i + 1) from nI_add i 1]
    rfl
  · rintro r u x y ⟨hu, rfl, rfl⟩
    have h1 := zSt_ag h (zAg_M hu)
    refine ⟨u, ?_, hu⟩
    rw [gI_73 h1.1, zb_some, h1.2.2.1.2.2.1, if_pos (Int32.le_refl _)]
theorem yWs_c {e e' : Nat → Nat → Int32} (h : zDt e e') (n rl i : Nat) : yWs e' n rl i = yWs e n rl i := by
  induction i with
  | zero => rfl
  | succ i ih =>
    show yWs e' n rl i + zWg e' n rl i = yWs e n rl i + zWg e n rl i
    rw [ih, zWg_c h]
theorem K_pay (h : zSt n p yr tx rl tp c μ) (a : Int32) : zOk c (fun u => F_X_pay u 0 a) (fun u => F_M_pay u 73 a) μ := by
  obtain ⟨hf, hP, hPe, hAs, hTa, hBa, hYr, hTp, hTx, hIm, hSh, hLt⟩ := id h
  have hp7 := hPe.1
  have n1 : ¬ nI 1 = 0 := by decide
  have n0 : nI 0 = 0 := rfl
  by_cases ha : a = (-1)
  · subst ha
    obtain ⟨μ1, x1, x2⟩ := X_payall h
    have h1 := zSt_ag h (zAg_X x2)
    obtain ⟨μ2, y1, y2⟩ := M_payall h1
    rw [yWs_c (zDt_X x2)] at y1
    exact zOk_ag h x1 (zAg_X x2) y1 (zAg_M y2)
  · rcases zcase a (n := p) (by omega) with ⟨w, hw, rfl⟩ | hb
    · have ep := zc_lt hw (show p < 2 ^ 31 by omega)
      obtain ⟨μ1, x1, x2⟩ := X_wages h hw
      have h1 := zSt_ag h (zAg_X x2)
      obtain ⟨v, μ2, y1, y2, y3, y4⟩ := M_wages h1 hw
      rw [zWg_c (zDt_X x2)] at y4
      refine zOk_ag h (v := nI (zWg μ.2.1 n rl w)) (μ1 := μ1) (μ2 := μ2) ?_ (zAg_X x2) ?_ (zAg_M y2)
      · unfold F_X_pay
        rw [if_neg ha, fo_0 hf, zb_some, X_isPerson hf hPe.2.1, if_pos ep, zb_some, if_neg n1, if_neg ha, gR_0_1 hf, zb_some, aR_3 hf (by omega), zb_some, zb_some, x1]
        rfl
      · unfold F_M_pay
        rw [if_neg ha, fo_73 h1.1, zb_some, M_isPerson h1.1 h1.2.2.1.2.2.1 hp7, if_pos ep, zb_some, if_neg n1, zb_some, y1, zk_some, fo_73 y2.1, zb_some, y3, zb_some, y4]
    · refine zOk_same (v := -2) h ?_ ?_
      · unfold F_X_pay
        rw [if_neg ha, fo_0 hf, zb_some, X_isPerson hf hPe.2.1, if_neg hb, zb_some, if_pos n0]
      · unfold F_M_pay
        rw [if_neg ha, fo_73 hf, zb_some, M_isPerson hf hPe.2.2.1 hp7, if_neg hb, zb_some, if_pos n0]
end S
