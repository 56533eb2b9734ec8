-- ===== told =====
section S
variable {n p yr tx rl tp c : Nat} {μ : zS}
theorem K_told (h : zSt n p yr tx rl tp c μ) (a b d : Int32) : zOk c (fun u => F_X_told u 0 a b d) (fun u => F_M_told u 73 a b d) μ := by
  obtain ⟨hf, hP, hPe, hAs, hTa, hBa, hYr, hTp, hTx, hIm, hSh, hLt⟩ := id h
  have hn6 := hP.1
  have hp7 := hPe.1
  have n1 : ¬ nI 1 = 0 := by decide
  have n0 : nI 0 = 0 := rfl
  rcases zcase a (n := p) (by omega) with ⟨w, hw, rfl⟩ | ha
  · have ep := zc_lt hw (show p < 2 ^ 31 by omega)
    have hw7 : w < 7 := by omega
    obtain ⟨k1, k2, k3, k4, k5, k6, k7, k8, k9⟩ := hPe.2.2.2 w hw7 hw
    have eX := X_isPerson (x := nI w) hf hPe.2.1
    have eM := M_isPerson (x := nI w) hf hPe.2.2.1 hp7
    rw [if_pos ep] at eX eM
    have iM := M_inL μ d 9 (by decide) (z := 9) rfl
    rcases zcase d (n := 10) (by decide) with ⟨k, hk, rfl⟩ | hd
    · rw [if_pos (zc_lt hk (by decide))] at iM
      have e4 := X_keeps hf hw7 (k1.trans k2.2) (by have := k2.1; omega) (k6.trans k7.2)
      have m4 := M_keeps hf hw7 k2.2 (by have := k2.1; omega) k7.2
      rcases (show k = 0 ∨ k = 1 ∨ k = 2 ∨ k = 3 ∨ k = 4 ∨ k = 5 ∨ k = 6 ∨ (7 ≤ k ∧ k < 10) by omega) with rfl | rfl | rfl | rfl | rfl | rfl | rfl | hk7
      · refine zOk_same (v := μ.2.1 76 w) h ?_ ?_
        · unfold F_X_told
          simp (decide := true) only [fo_0 hf, zb_some, eX, gR_0_1 hf, aR_3 hf hw7, gI_P hf hw7, if_true, if_false, k1]
        · unfold F_M_told
          simp (decide := true) only [fo_73 hf, zb_some, eM, iM, gR_73_5 hf, aI_76 hf hw7, if_true, if_false]
      · refine zOk_same (v := μ.2.1 77 w) h ?_ ?_
        · unfold F_X_told
          simp (decide := true) only [fo_0 hf, zb_some, eX, gR_0_1 hf, aR_3 hf hw7, gI_P hf hw7, if_true, if_false, k3]
        · unfold F_M_told
          simp (decide := true) only [fo_73 hf, zb_some, eM, iM, gR_73_6 hf, aI_77 hf hw7, if_true, if_false]
      · refine zOk_same (v := μ.2.1 78 w) h ?_ ?_
        · unfold F_X_told
          simp (decide := true) only [fo_0 hf, zb_some, eX, gR_0_1 hf, aR_3 hf hw7, gI_P hf hw7, if_true, if_false, k6]
        · unfold F_M_told
          simp (decide := true) only [fo_73 hf, zb_some, eM, iM, gR_73_7 hf, aI_78 hf hw7, if_true, if_false]
      · refine zOk_same (v := μ.2.1 79 w) h ?_ ?_
        · unfold F_X_told
          simp (decide := true) only [fo_0 hf, zb_some, eX, gR_0_1 hf, aR_3 hf hw7, gI_P hf hw7, if_true, if_false, k8]
        · unfold F_M_told
          simp (decide := true) only [fo_73 hf, zb_some, eM, iM, gR_73_8 hf, aI_79 hf hw7, if_true, if_false]
      · refine zOk_same h (v := nI (zkp (μ.2.1 76 w).toNatClampNeg (μ.2.1 78 w).toNatClampNeg)) ?_ ?_
        · unfold F_X_told
          simp (decide := true) only [fo_0 hf, zb_some, eX, gR_0_1 hf, aR_3 hf hw7, fo_P hf hw7, if_true, if_false, e4]
        · unfold F_M_told
          simp (decide := true) only [fo_73 hf, zb_some, eM, iM, m4, if_true, if_false]
      · refine zOk_same h (v := nI (zcf (μ.2.1 76 w).toNatClampNeg (zct (zCan μ.2.1 w) n))) ?_ ?_
        · unfold F_X_told
          simp (decide := true) only [fo_0 hf, zb_some, eX, gR_0_1 hf, gR_0_0 hf, aR_3 hf hw7, fo_P hf hw7, if_true, if_false, counts_X h hw]
        · unfold F_M_told
          simp (decide := true) only [fo_73 hf, zb_some, eM, iM, counts_M h hw, if_true, if_false]
      · refine zOk_same (v := μ.2.1 80 w) h ?_ ?_
        · unfold F_X_told
          simp (decide := true) only [fo_0 hf, zb_some, eX, gR_0_1 hf, aR_3 hf hw7, gI_P hf hw7, if_true, if_false, (hAs w hw7).1]
        · unfold F_M_told
          simp (decide := true) only [fo_73 hf, zb_some, eM, iM, gR_73_9 hf, aI_80 hf hw7, if_true, if_false]
      · have q0 : ¬ nI k < 0 := nI_lt0 (by omega)
        have q9 : ¬ (9 : Int32) < nI k := by rw [show (9 : Int32) = nI 9 from rfl, nI_ltI (by omega) (by omega)]; omega
        have q7 : ¬ nI k < 7 := by rw [show (7 : Int32) = nI 7 from rfl, nI_ltI (by omega) (by omega)]; omega
        have q6 : ¬ nI k ≤ 6 := by rw [show (6 : Int32) = nI 6 from rfl, nI_leI (by omega) (by omega)]; omega
        rcases zcase b (n := n) (by omega) with ⟨q, hq, rfl⟩ | hb
        · have eq := zc_lt hq (show n < 2 ^ 31 by omega)
          have eXh := X_has (x := nI q) hf hP.2.1
          have eMp := M_isPost (x := nI q) hf hP.2.2.1 hn6
          rw [if_pos eq] at eXh eMp
          rcases (show k = 7 ∨ k = 8 ∨ k = 9 by omega) with rfl | rfl | rfl
          · refine zOk_same h (v := b2 (zCan μ.2.1 w q)) ?_ ?_
            · unfold F_X_told
              simp (decide := true) only [fo_0 hf, fo_1 hf, zb_some, eX, eXh, gR_0_1 hf, gR_0_0 hf, aR_3 hf hw7, fo_P hf hw7, if_true, if_false, can_X h hw hq]
              cases zCan μ.2.1 w q <;> rfl
            · unfold F_M_told
              simp (decide := true) only [fo_73 hf, zb_some, eM, iM, eMp, can_M h hw hq, if_true, if_false]
              cases zCan μ.2.1 w q <;> rfl
          · obtain ⟨μ1, x1, x2⟩ := X_well h hw hq
            have h1 := zSt_ag h (zAg_X x2)
            obtain ⟨μ2, y1, y2⟩ := M_well h1 hw hq
            have ev : zWell μ1.2.1 rl w q = zWell μ.2.1 rl w q := by unfold zWell; rw [zVal_c (zDt_X x2)]
            rw [ev] at y1
            have eM1 := M_isPerson (x := nI w) h1.1 h1.2.2.1.2.2.1 hp7
            have iM1 := M_inL μ1 (nI 8) 9 (by decide) (z := 9) rfl
            have eMp1 := M_isPost (x := nI q) h1.1 h1.2.1.2.2.1 hn6
            rw [if_pos ep] at eM1
            rw [if_pos (zc_lt hk (by decide))] at iM1
            rw [if_pos eq] at eMp1
            refine zOk_ag h (v := nI (zWell μ.2.1 rl w q)) (μ1 := μ1) (μ2 := μ2) ?_ (zAg_X x2) ?_ (zAg_M y2)
            · unfold F_X_told
              simp (decide := true) only [fo_0 hf, fo_1 hf, zb_some, eX, eXh, gR_0_1 hf, gR_0_0 hf, aR_3 hf hw7, if_true, if_false, x1]
              rfl
            · unfold F_M_told
              simp (decide := true) only [fo_73 h1.1, zb_some, eM1, iM1, eMp1, if_true, if_false, y1]
              rfl
          · obtain ⟨μ1, x1, x2⟩ := X_cost h hw hq
            have h1 := zSt_ag h (zAg_X x2)
            obtain ⟨μ2, y1, y2⟩ := M_cost h1 hw hq
            have ev : zCost μ1.2.1 rl w q = zCost μ.2.1 rl w q := by unfold zCost; rw [zVal_c (zDt_X x2)]
            rw [ev] at y1
            have eM1 := M_isPerson (x := nI w) h1.1 h1.2.2.1.2.2.1 hp7
            have iM1 := M_inL μ1 (nI 9) 9 (by decide) (z := 9) rfl
            have eMp1 := M_isPost (x := nI q) h1.1 h1.2.1.2.2.1 hn6
            rw [if_pos ep] at eM1
            rw [if_pos (zc_lt hk (by decide))] at iM1
            rw [if_pos eq] at eMp1
            refine zOk_ag h (v := nI (zCost μ.2.1 rl w q)) (μ1 := μ1) (μ2 := μ2) ?_ (zAg_X x2) ?_ (zAg_M y2)
            · unfold F_X_told
              simp (decide := true) only [fo_0 hf, fo_1 hf, zb_some, eX, eXh, gR_0_1 hf, gR_0_0 hf, aR_3 hf hw7, if_true, if_false, x1]
              rfl
            · unfold F_M_told
              simp (decide := true) only [fo_73 h1.1, zb_some, eM1, iM1, eMp1, if_true, if_false, y1]
              rfl
        · refine zOk_same (v := -5) h ?_ ?_
          · unfold F_X_told
            rw [fo_0 hf, zb_some, eX, zb_some, if_neg n1, if_neg q0, if_neg q9, if_neg q7, gR_0_0 hf, zb_some, fo_1 hf, zb_some, X_has hf hP.2.1, if_neg hb, zb_some, if_pos n0]
          · unfold F_M_told
            rw [fo_73 hf, zb_some, eM, zb_some, if_neg n1, iM, zb_some, if_neg n1, if_neg q6, zb_some, M_isPost hf hP.2.2.1 hn6, if_neg hb, zb_some, if_pos n0]
    · rw [if_neg hd] at iM
      refine zOk_same (v := -5) h ?_ ?_
      · unfold F_X_told
        rw [fo_0 hf, zb_some, eX, zb_some, if_neg n1]
        by_cases q : d < 0
        · rw [if_pos q]
        · rw [if_neg q, if_pos]
          refine Int32.not_le.mp (fun z => hd ⟨Int32.not_lt.mp q, ?_⟩)
          rw [fa_le, show (9 : Int32).toInt = 9 by decide] at z
          rw [fa_lt, nI_toInt (by decide)]
          omega
      · unfold F_M_told
        rw [fo_73 hf, zb_some, eM, zb_some, if_neg n1, iM, zb_some, if_pos n0]
  · refine zOk_same (v := -5) h ?_ ?_
    · unfold F_X_told
      rw [fo_0 hf, zb_some, X_isPerson hf hPe.2.1, if_neg ha, zb_some, if_pos n0]
    · unfold F_M_told
      rw [fo_73 hf, zb_some, M_isPerson hf hPe.2.2.1 hp7, if_neg ha, zb_some, if_pos n0]
end S
