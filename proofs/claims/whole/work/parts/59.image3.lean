-- ===== image: both =====
section S
variable {n p yr tx rl tp c : Nat} {μ : zS}
theorem zimX_off {a k : Nat} (h1 : ¬ (a = 0 ∧ 12 ≤ k ∧ k ≤ 15)) (h2 : ¬ (18 ≤ a ∧ a < 18 + 3 * p ∧ ((a - 18) % 3 = 0 ∧ (k = 7 ∨ k = 9) ∨ (a - 18) % 3 = 2))) : (zimX μ p yr rl).2.1 a k = μ.2.1 a k := by
  unfold zimX
  rw [uI_at, uI_at, uI_at, uI_at, if_neg (by omega), if_neg (by omega), if_neg (by omega), if_neg (by omega), zsv_off p h2]
theorem zimX_sv {a k : Nat} (h1 : a ≠ 0) : (zimX μ p yr rl).2.1 a k = (zsv μ p).2.1 a k := by
  unfold zimX
  rw [uI_at, uI_at, uI_at, uI_at, if_neg (by omega), if_neg (by omega), if_neg (by omega), if_neg (by omega)]
theorem zimM_off {a k : Nat} (h1 : ¬ (a = 73 ∧ 41 ≤ k ∧ k ≤ 44)) (h2 : ¬ (95 ≤ a ∧ a ≤ 98)) : (zimM μ p yr rl).2.1 a k = μ.2.1 a k := by
  unfold zimM
  rw [zfg_at, if_neg (by omega), ztri_at (by decide) (by decide) (by decide), if_neg (by omega), if_neg (by omega), if_neg (by omega)]
  unfold zimM0
  rw [uI_at, uI_at, uI_at, uI_at, if_neg (by omega), if_neg (by omega), if_neg (by omega), if_neg (by omega)]
theorem zimM_row {k : Nat} (hk : k < 42) : (zimM μ p yr rl).2.1 95 k = μ.2.1 81 k ∧ (zimM μ p yr rl).2.1 96 k = μ.2.1 82 k ∧ (zimM μ p yr rl).2.1 97 k = μ.2.1 83 k := by
  unfold zimM
  refine ⟨?_, ?_, ?_⟩
  · rw [zfg_at, if_neg (by omega), ztri_at (by decide) (by decide) (by decide), if_pos ⟨rfl, hk⟩]
  · rw [zfg_at, if_neg (by omega), ztri_at (by decide) (by decide) (by decide), if_neg (by omega), if_pos ⟨rfl, hk⟩]
  · rw [zfg_at, if_neg (by omega), ztri_at (by decide) (by decide) (by decide), if_neg (by omega), if_neg (by omega), if_pos ⟨rfl, hk⟩]
theorem zimM_98 {k : Nat} (hk : k < 7) : (zimM μ p yr rl).2.1 98 k = μ.2.1 80 k := by
  unfold zimM
  rw [zfg_at, if_pos (by omega), Nat.sub_zero]
theorem zimM_73 : (zimM μ p yr rl).2.1 73 41 = 1 ∧ (zimM μ p yr rl).2.1 73 42 = nI p ∧ (zimM μ p yr rl).2.1 73 43 = nI yr ∧ (zimM μ p yr rl).2.1 73 44 = nI rl := by
  unfold zimM
  refine ⟨?_, ?_, ?_, ?_⟩
  all_goals rw [zfg_at, if_neg (by omega), ztri_at (by decide) (by decide) (by decide), if_neg (by omega), if_neg (by omega), if_neg (by omega)]
  all_goals rfl
theorem z6 {k : Nat} (hk : k < 42) : ∃ w q, w < 7 ∧ q < 6 ∧ k = 6 * w + q := ⟨k / 6, k % 6, by omega, by omega, by omega⟩
theorem K_image (h : zSt n p yr tx rl tp c μ) : zOk c (fun u => F_X_image u 0) (fun u => F_M_image u 73) μ := by
  obtain ⟨hf, hP, hPe, hAs, hTa, hBa, hYr, hTp, hTx, hIm, hSh, hLt⟩ := id h
  have hp7 := hPe.1
  obtain ⟨x1, x2, x3, x4, x5, x6, x7, x8⟩ := id hTx
  have hX := X_image_ok hf hPe.2.1 hp7 hYr.2.1 x6
  generalize hμ1 : zimX μ p yr rl = μ1 at hX
  have hf1 : zFr μ1 := by rw [← hμ1]; exact fr_uI (fr_uI (fr_uI (fr_uI (zsv_fr hf p))))
  have o1 : ∀ a k, 39 ≤ a → μ1.2.1 a k = μ.2.1 a k := by intro a k ha; rw [← hμ1, zimX_off (by omega) (by omega)]
  have hM := M_image_ok (μ := μ1) (p := p) (yr := yr) (rl := rl) hf1 ((o1 _ _ (by decide)).trans hPe.2.2.1) ((o1 _ _ (by decide)).trans hYr.2.2) ((o1 _ _ (by decide)).trans x7)
    (by
      intro k hk
      rw [o1 _ _ (by decide)]
      obtain ⟨w, q, hw, hq, rfl⟩ := z6 hk
      rcases (hTa w hw q hq).1 with z | z
      · exact Or.inl z.1
      · exact Or.inr z.1)
    (by
      intro k hk
      rw [o1 _ _ (by decide)]
      obtain ⟨w, q, hw, hq, rfl⟩ := z6 hk
      exact ((hBa w hw).1.2 q hq).1)
  generalize hμ2 : zimM μ1 p yr rl = μ2 at hM
  have hf2 : zFr μ2 := by rw [← hμ2]; exact zfg_fr (ztri_fr (fr_uI (fr_uI (fr_uI (fr_uI hf1)))) 42) 7
  have hoff : ∀ a k, ¬ (a = 0 ∧ 12 ≤ k ∧ k ≤ 15) → ¬ (18 ≤ a ∧ a ≤ 38 ∧ ((a - 18) % 3 = 0 ∧ (k = 7 ∨ k = 9) ∨ (a - 18) % 3 = 2)) → ¬ (a = 73 ∧ 41 ≤ k ∧ k ≤ 44) → ¬ (95 ≤ a ∧ a ≤ 98) → μ2.2.1 a k = μ.2.1 a k := by
    intro a k q1 q2 q3 q4
    rw [← hμ2, zimM_off q3 q4, ← hμ1, zimX_off q1 (by omega)]
  have m73 := zimM_73 (μ := μ1) (p := p) (yr := yr) (rl := rl)
  rw [hμ2] at m73
  have x0 : μ2.2.1 0 12 = 1 ∧ μ2.2.1 0 13 = nI yr ∧ μ2.2.1 0 14 = nI rl ∧ μ2.2.1 0 15 = nI p := by
    rw [← hμ2]
    refine ⟨?_, ?_, ?_, ?_⟩
    all_goals rw [zimM_off (by omega) (by omega), ← hμ1]
    all_goals rfl
  have hIm2 : zIm n p tx (c + 1) μ2.2.1 := by
    refine ⟨x0.1.trans m73.1.symm, Or.inr x0.1, fun _ => ?_⟩
    rw [x0.2.1, m73.2.2.1, x0.2.2.1, m73.2.2.2, x0.2.2.2, m73.2.1, nI_clamp (show rl < 2 ^ 31 by omega), nI_clamp (show p < 2 ^ 31 by omega)]
    refine ⟨rfl, zRg_nI hYr.1 (by decide), rfl, zRg_nI (by omega) (by decide), x5, rfl, zRg_nI hp7 (by decide), Nat.le_refl _, ?_⟩
    intro w hw hwp
    obtain ⟨v1, v2, v3⟩ := zsv_in (μ := μ) (w := w) p hwp
    obtain ⟨s1, s2, s3⟩ := hAs w hw
    have e7 : μ2.2.1 (18 + 3 * w) 7 = μ.2.1 (18 + 3 * w) 4 := by rw [← hμ2, zimM_off (by omega) (by omega), ← hμ1, zimX_sv (by omega), v1]
    have e9 : μ2.2.1 (18 + 3 * w) 9 = μ.2.1 (18 + 3 * w) 6 := by rw [← hμ2, zimM_off (by omega) (by omega), ← hμ1, zimX_sv (by omega), v2]
    have e98 : μ2.2.1 98 w = μ.2.1 80 w := by rw [← hμ2, zimM_98 hw, o1 _ _ (by decide)]
    refine ⟨by rw [e7, e98]; exact s1, by rw [e98]; exact zRg_m s2 (by omega), ?_, ?_⟩
    · rw [e9]
      refine zBb_c (hBa w hw).1 (fun q hq => ?_)
      have := (zimM_row (μ := μ1) (p := p) (yr := yr) (rl := rl) (k := 6 * w + q) (by omega)).2.2
      rw [hμ2] at this
      exact this.trans (o1 _ _ (by decide))
    · intro q hq
      have hr := zimM_row (μ := μ1) (p := p) (yr := yr) (rl := rl) (k := 6 * w + q) (by omega)
      rw [hμ2, o1 _ _ (by decide), o1 _ _ (by decide), o1 _ _ (by decide)] at hr
      have e20 : μ2.2.1 (20 + 3 * w) q = μ.2.1 (19 + 3 * w) q := by rw [← hμ2, zimM_off (by omega) (by omega), ← hμ1, zimX_sv (by omega), v3 q hq]
      rw [e20, hr.1, hr.2.1]
      exact (hTa w hw q hq).1
  refine ⟨_, μ1, μ2, hX, hf1, hM, n, p, yr, tx, rl, tp, hf2, ?_⟩
  refine ⟨zP_c hP ?_, zPe_c hPe ?_, zAs_m (zAs_c hAs ?_) (Nat.le_succ c) (Nat.le_refl p), zTa_c hTa ?_, zBa_c hBa ?_, zYr_c hYr ?_, zTp_c hTp ?_, zTx_c hTx ?_, hIm2, zSh_c hSh ?_, zLt_c hLt ?_⟩
  all_goals (intro a k hak; exact hoff a k (by omega) (by omega) (by omega) (by omega))
end S
