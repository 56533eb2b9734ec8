-- ===== done: the call =====
section S
variable {n p yr tx rl tp c : Nat} {μ : zS}
theorem K_done (h : zSt n p yr tx rl tp c μ) (hc : c ≤ 512) (a : Int32) : zOk c (fun u => F_X_done u 0 a) (fun u => F_M_done u 73 a) μ := by
  obtain ⟨hf, hP, hPe, hAs, hTa, hBa, hYr, hTp, hTx, hIm, hSh, hLt⟩ := id h
  have hn6 := hP.1
  have hp7 := hPe.1
  have n1 : ¬ nI 1 = 0 := by decide
  have n0 : nI 0 = 0 := rfl
  have h2p := p2_le hp7
  have h2q := p2_pos p
  rcases zcase a (n := 2 ^ p) (by omega) with ⟨U, hU, rfl⟩ | ha
  · have eU := zc_lt hU (show 2 ^ p < 2 ^ 31 by omega)
    obtain ⟨u, x1, x2, x3⟩ := X_plan h hU
    have hag : zAg tx μ u := yNs_ag x2 (fun a k x y => by unfold zess at y; unfold yBP at x; omega)
    have h1 := zSt_ag h hag
    have hd : zDt μ.2.1 u.2.1 := yNs_dt x2 (fun a k x => by unfold yBP at x; omega)
    have hXw : F_X_isCrewSet μ 0 (nI U) = some (nI 1) := by rw [X_crew hf hPe.2.1 hp7, if_pos eU]
    have hDl : yD (zCan μ.2.1) (yG μ.2.1 rl) n p (yMu μ.2.1) n (fun w => !U.testBit w) < 2 ^ 31 := yDlt (yG_le μ.2.1 rl) hn6 n (Nat.le_refl n) _
    by_cases hD : yD (zCan μ.2.1) (yG μ.2.1 rl) n p (yMu μ.2.1) n (fun w => !U.testBit w) < 0
    · obtain ⟨u1, u2, u3, y1, y1f, y2, y2f, y3, y4, y5⟩ := M_plan h1 hU
      have hag2 : zAg tx u u3 := yNs_ag y4 (fun a k x y => by unfold zess at y; unfold yBM at x; omega)
      rw [zCan_f hd, yG_f hd, yMu_c hd] at y3
      have hMw : F_M_areAway u 73 (nI U) = some (nI 1) := by rw [M_away h1.1 h1.2.2.1.2.2.1 hp7, if_pos eU]
      refine zOk_ag h (v := -3) (μ1 := u) (μ2 := u3) ?_ hag ?_ hag2
      · unfold F_X_done
        rw [fo_0 hf, zb_some, hXw, zb_some, if_neg n1, zb_some, x1, zk_some, if_pos ((yI_1 hDl).mpr hD)]
      · unfold F_M_done
        rw [fo_73 h1.1, zb_some, hMw, zb_some, if_neg n1, zb_some, y1, zb_some, fo_73 y1f, zb_some, y2, zb_some, fo_73 y2f, zb_some, y3, zk_some, decide_eq_false (show ¬ 0 ≤ yD (zCan μ.2.1) (yG μ.2.1 rl) n p (yMu μ.2.1) n (fun w => !U.testBit w) by omega), if_pos (show b2 false = 0 from rfl)]
    · have hD0 : 0 ≤ yD (zCan μ.2.1) (yG μ.2.1 rl) n p (yMu μ.2.1) n (fun w => !U.testBit w) := by omega
      generalize hwho : yL (zCan μ.2.1) (yG μ.2.1 rl) n p (yMu μ.2.1) n (fun w => !U.testBit w) = who at *
      have hwr : ∀ q, q < n → who q = (-1) ∨ ∃ w, w < p ∧ who q = nI w := fun q _ => by
        rw [← hwho]
        exact yL_rg hp7 n _ q
      have h1As := h1.2.2.2.1
      have hAu : ∀ w, w < 7 → u.2.1 (18 + 3 * w) 4 = nI (μ.2.1 80 w).toNatClampNeg := by
        intro w hw
        rw [hag.2 _ _ (ze3 (by omega)), (hAs w hw).1]
        exact (hAs w hw).2.1.2
      have hOu : ∀ w, w < p → u.2.1 (18 + 3 * w) 1 = nI (μ.2.1 77 w).toNatClampNeg ∧ (μ.2.1 77 w).toNatClampNeg < 6 := by
        intro w hw
        obtain ⟨k1, k2, k3, k4, k5, -⟩ := hPe.2.2.2 w (by omega) hw
        rw [hag.2 _ _ (ze3 (by omega)), k3]
        exact ⟨k4.2, by omega⟩
      obtain ⟨v, l1, l2, l3, l4⟩ := X_doneL (A := fun w => (μ.2.1 80 w).toNatClampNeg) (O := fun w => (μ.2.1 77 w).toNatClampNeg) (who := who) h1.1 hn6 hp7 h1.2.1.2.1 h1.2.2.1.2.1 h1.2.2.2.2.2.2.1.2.1 hwr (x3 hD0) hAu hOu
      have hdv : zDt μ.2.1 v.2.1 := fun a k z => by rw [l2.2.2.2 a k (by unfold yDx; omega), hd a k z]
      have hMv := zSM_c (zSM_of h) hdv l2.1
      obtain ⟨u1, u2, u3, y1, y1f, y2, y2f, y3, y4, y5⟩ := plan_N hMv hU
      rw [zCan_f hdv, yG_f hdv, yMu_c hdv] at y3 y5
      have hd3 : zDt v.2.1 u3.2.1 := yNs_dt y4 (fun a k x => by unfold yBM at x; omega)
      have o80 : ∀ a k, 74 ≤ a → a ≤ 88 → u3.2.1 a k = μ.2.1 a k := fun a k z1 z2 => by rw [hd3 a k (by omega), hdv a k (by omega)]
      obtain ⟨v', m1, m2, m3, m4⟩ := M_doneL (n := n) (p := p) (yr := yr) (A := fun w => (μ.2.1 80 w).toNatClampNeg) (O := fun w => (μ.2.1 77 w).toNatClampNeg) (who := who) (u := u3) y4.1 hn6 hp7
        (by rw [hd3 73 1 (by omega), hdv 73 1 (by omega)]; exact hP.2.2.1) (by rw [hd3 73 10 (by omega), hdv 73 10 (by omega)]; exact hYr.2.2) hwr
        (fun q hq => by rw [(y5 hD0).2 q hq, hwho])
        (fun w hw => by rw [o80 80 w (by decide) (by decide)]; exact (hAs w hw).2.1.2)
        (fun w hw => by
          obtain ⟨k1, k2, k3, k4, k5, -⟩ := hPe.2.2.2 w (by omega) hw
          rw [o80 77 w (by decide) (by decide)]
          exact ⟨k4.2, by omega⟩)
      have hMw : F_M_areAway v 73 (nI U) = some (nI 1) := by rw [M_away l2.1 ((hdv 73 4 (by omega)).trans hPe.2.2.1) hp7, if_pos eU]
      have hX : F_X_done μ 0 (nI U) = some (nI (yFd who n), v) := by
        unfold F_X_done
        rw [fo_0 hf, zb_some, hXw, zb_some, if_neg n1, zb_some, x1, zk_some, if_neg (fun z => hD ((yI_1 hDl).mp z))]
        exact l1
      have hM : F_M_done v 73 (nI U) = some (nI (yFd who n), v') := by
        unfold F_M_done
        rw [fo_73 l2.1, zb_some, hMw, zb_some, if_neg n1, zb_some, y1, zb_some, fo_73 y1f, zb_some, y2, zb_some, fo_73 y2f, zb_some, y3, zk_some, decide_eq_true hD0, if_neg (show ¬ b2 true = 0 by decide)]
        exact m1
      refine ⟨_, _, _, hX, l2.1, hM, n, p, yr, tx, rl, tp, m2.1, ?_⟩
      -- what is the same
      obtain ⟨gf, gP, gPe, gAs, gTa, gBa, gYr, gTp, gTx, gIm, gSh, gLt⟩ := id h1
      have off : ∀ a k, ¬ yDx a k → ¬ yDm a k → ¬ yBM a k → v'.2.1 a k = u.2.1 a k := by
        intro a k z1 z2 z3
        rw [m2.2.2.2 a k z2, y4.2.2.2 a k z3, l2.2.2.2 a k z1]
      have hu80 : ∀ a k, 74 ≤ a → a ≤ 88 → u.2.1 a k = μ.2.1 a k := fun a k z1 z2 => hd a k (by omega)
      have hlx : ∀ w, w < 7 → ∀ q, q < 6 → v'.2.1 (19 + 3 * w) q = if q < n ∧ who q = nI w ∧ ¬ u.2.1 (19 + 3 * w) q = (-1) then nI yr else u.2.1 (19 + 3 * w) q := by
        intro w hw q hq
        rw [m2.2.2.2 _ _ (by unfold yDm; omega), y4.2.2.2 _ _ (by unfold yBM; omega), l3 w hw q hq]
      have hs : ∀ w, w < 7 → ∀ q, q < 6 → v'.2.1 81 (6 * w + q) = if q < n ∧ who q = nI w ∧ ¬ u.2.1 82 (6 * w + q) = 0 then nI yr else u.2.1 81 (6 * w + q) := by
        intro w hw q hq
        rw [m3 w hw q hq, o80 82 _ (by decide) (by decide), o80 81 _ (by decide) (by decide), hu80 82 _ (by decide) (by decide), hu80 81 _ (by decide) (by decide)]
      have hax : ∀ w, w < 7 → v'.2.1 (18 + 3 * w) 4 = nI ((μ.2.1 80 w).toNatClampNeg + yAk who (fun w => (μ.2.1 77 w).toNatClampNeg) w n) := by
        intro w hw
        rw [m2.2.2.2 _ _ (by unfold yDm; omega), y4.2.2.2 _ _ (by unfold yBM; omega), l4 w hw]
      have h82 : ∀ k, v'.2.1 82 k = u.2.1 82 k := fun k => off 82 k (by unfold yDx; omega) (by unfold yDm; omega) (by unfold yBM; omega)
      have rAs : zAs p (c + 1) v'.2.1 := by
        intro w hw
        rw [hax w hw, m4 w hw]
        have hk : yAk who (fun w => (μ.2.1 77 w).toNatClampNeg) w n ≤ n := zct_le _ n
        have h80 := (hAs w hw).2.1.1
        refine ⟨rfl, zRg_nI (by omega) (by omega), fun hpw => ?_⟩
        have e2 : yAk who (fun w => (μ.2.1 77 w).toNatClampNeg) w n = 0 := zct_0 (fun q hq => by
          rw [decide_eq_false]
          rintro ⟨z, -⟩
          rcases hwr q hq with y | ⟨w', y1, y2⟩
          · rw [y] at z; exact nI_n1 (by omega) z.symm
          · rw [y2] at z
            have := nI_inj (by omega) (by omega) z
            omega)
        rw [e2, (hAs w hw).2.2 hpw]
        rfl
      have rTa : zTa n p v'.2.1 := by
        intro w hw q hq
        rw [hlx w hw q hq, hs w hw q hq, h82]
        obtain ⟨t1, t2⟩ := gTa w hw q hq
        refine ⟨?_, t2⟩
        rcases t1 with ⟨z1, z2⟩ | ⟨z1, z2, z3, z4⟩
        · rw [if_neg (fun y => y.2.2 z2), if_neg (fun y => y.2.2 z1)]
          exact Or.inl ⟨z1, z2⟩
        · have z5 : ¬ u.2.1 (19 + 3 * w) q = (-1) := by
            rw [z2, z3.2]
            exact nI_n1 (by have := z3.1; omega)
          have z6 : ¬ u.2.1 82 (6 * w + q) = 0 := by rw [z1]; decide
          by_cases y : q < n ∧ who q = nI w
          · rw [if_pos ⟨y.1, y.2, z5⟩, if_pos ⟨y.1, y.2, z6⟩]
            exact Or.inr ⟨z1, rfl, zRg_nI hYr.1 (by decide), z4⟩
          · rw [if_neg (fun x => y ⟨x.1, x.2.1⟩), if_neg (fun x => y ⟨x.1, x.2.1⟩)]
            exact Or.inr ⟨z1, z2, z3, z4⟩
      refine ⟨zP_c gP ?_, zPe_c gPe ?_, rAs, rTa, zBa_c gBa ?_, zYr_c gYr ?_, zTp_c gTp ?_, zTx_c gTx ?_, zIm_m (zIm_c gIm ?_) (Nat.le_refl n) (Nat.le_refl p) (Nat.le_refl tx) (Nat.le_succ c), zSh_c gSh ?_, zLt_c gLt ?_⟩
      all_goals (intro a k z; exact off a k (by unfold yDx; omega) (by unfold yDm; omega) (by unfold yBM; omega))
  · refine zOk_same (v := -2) h ?_ ?_
    · unfold F_X_done
      rw [fo_0 hf, zb_some, X_crew hf hPe.2.1 hp7, if_neg ha, zb_some, if_pos n0]
    · unfold F_M_done
      rw [fo_73 hf, zb_some, M_away hf hPe.2.2.1 hp7, if_neg ha, zb_some, if_pos n0]
end S
