-- ===== lessons: the call =====
section S
variable {n p yr tx rl tp c many : Nat} {μ : zS}
theorem M_try1 {u : zS} (h : zSM n p yr rl u) (hR : yRw (zCan u.2.1) n p u.2.1) (h38 : u.2.1 73 38 = (-1)) (hmany : many < 2 ^ 31) : ∃ v, F_M_tryLessons u 73 (nI many) 1 = some v ∧ yTr u v ∧ yrM (ys1 (yIs u.2.1 n p) (yOk1 (zCan u.2.1) (yMu u.2.1) n p many) (fun k => zCost u.2.1 rl (k / 10) (k % 10)) (10 * p)) v := by
  have hp7 := h.2.2.1
  generalize hcost : (fun k => zCost u.2.1 rl (k / 10) (k % 10)) = cost
  have hce : ∀ k, zCost u.2.1 rl (k / 10) (k % 10) = cost k := fun k => by rw [← hcost]
  unfold F_M_tryLessons
  refine fix2_p (10 * p) (fun k v x => yTr u v ∧ x = nI k ∧ yrM (ys1 (yIs u.2.1 n p) (yOk1 (zCan u.2.1) (yMu u.2.1) n p many) cost k) v) (fun o => ∃ v, o = some v ∧ yTr u v ∧ yrM (ys1 (yIs u.2.1 n p) (yOk1 (zCan u.2.1) (yMu u.2.1) n p many) cost (10 * p)) v) ?_ ?_ (zFU_lt (by omega)) ⟨⟨yNs_rf h.1, fun _ => rfl⟩, rfl, h38, fun z => absurd rfl z⟩
  · rintro r k v x hk ⟨hv, rfl, hs⟩
    have hd := yTr_dt hv
    have h1 := zSM_c h hd hv.1.1
    have hR1 : yRw (zCan v.2.1) n p v.2.1 := fun w hw => by rw [hv.2, zCan_f hd]; exact hR w hw
    have hL := M_isL h1 hR1 (show k < 2 ^ 31 by omega)
    rw [yIs_c hd] at hL
    left
    rw [gI_73 h1.1, zb_some, h1.2.2.2.2.2.1, show (10 : Int32) = nI 10 from rfl, pk_mul, if_neg (show ¬ nI (10 * p) ≤ nI k by rw [nI_leI (by omega) (by omega)]; omega), fo_73 h1.1, zb_some, hL, zb_some, show nI k + 1 = nI (k + 1) from nI_add k 1]
    cases hLk : yIs u.2.1 n p k
    · rw [if_pos (show b2 false = 0 from rfl)]
      refine ⟨v, nI (k + 1), ⟨hv, rfl, ?_⟩, rfl⟩
      rw [ys1_s, hLk, Bool.false_and, if_neg (by decide)]
      exact hs
    · obtain ⟨v', t1, t2, t3⟩ := M_tries1 (many := many) h1 hR1 hs (ys1_ok k) (by rw [yIs_c hd]; exact hLk) hmany
      rw [zCan_f hd, yMu_c hd, zCost_c hd, hce] at t3
      rw [if_neg (show ¬ b2 true = 0 by decide), if_pos rfl, zb_some, t1, zb_some]
      refine ⟨v', nI (k + 1), ⟨yTr_tr hv t2, rfl, ?_⟩, rfl⟩
      rw [ys1_s, hLk, Bool.true_and]
      exact t3
  · rintro r v x ⟨hv, rfl, hs⟩
    have hd := yTr_dt hv
    have h1 := zSM_c h hd hv.1.1
    refine ⟨v, ?_, hv, hs⟩
    rw [gI_73 h1.1, zb_some, h1.2.2.2.2.2.1, show (10 : Int32) = nI 10 from rfl, pk_mul, if_pos (Int32.le_refl _)]
theorem M_try2 {u : zS} (h : zSM n p yr rl u) (hR : yRw (zCan u.2.1) n p u.2.1) (h38 : u.2.1 73 38 = (-1)) (hmany : many < 2 ^ 31) : ∃ v, F_M_tryLessons u 73 (nI many) 2 = some v ∧ yTr u v ∧ yrM (ys2 (yIs u.2.1 n p) (yOk2 (zCan u.2.1) (yMu u.2.1) n p many) (fun k => zCost u.2.1 rl (k / 10) (k % 10)) (10 * p) (10 * p)) v := by
  have hp7 := h.2.2.1
  generalize hcost : (fun k => zCost u.2.1 rl (k / 10) (k % 10)) = cost
  have hce : ∀ k, zCost u.2.1 rl (k / 10) (k % 10) = cost k := fun k => by rw [← hcost]
  unfold F_M_tryLessons
  refine fix2_p (10 * p) (fun k v x => yTr u v ∧ x = nI k ∧ yrM (ys2 (yIs u.2.1 n p) (yOk2 (zCan u.2.1) (yMu u.2.1) n p many) cost (10 * p) k) v) (fun o => ∃ v, o = some v ∧ yTr u v ∧ yrM (ys2 (yIs u.2.1 n p) (yOk2 (zCan u.2.1) (yMu u.2.1) n p many) cost (10 * p) (10 * p)) v) ?_ ?_ (zFU_lt (by omega)) ⟨⟨yNs_rf h.1, fun _ => rfl⟩, rfl, h38, fun z => absurd rfl z⟩
  · rintro r k v x hk ⟨hv, rfl, hs⟩
    have hd := yTr_dt hv
    have h1 := zSM_c h hd hv.1.1
    have hR1 : yRw (zCan v.2.1) n p v.2.1 := fun w hw => by rw [hv.2, zCan_f hd]; exact hR w hw
    have hL := M_isL h1 hR1 (show k < 2 ^ 31 by omega)
    rw [yIs_c hd] at hL
    left
    rw [gI_73 h1.1, zb_some, h1.2.2.2.2.2.1, show (10 : Int32) = nI 10 from rfl, pk_mul, if_neg (show ¬ nI (10 * p) ≤ nI k by rw [nI_leI (by omega) (by omega)]; omega), fo_73 h1.1, zb_some, hL, zb_some, show nI k + 1 = nI (k + 1) from nI_add k 1]
    cases hLk : yIs u.2.1 n p k
    · rw [if_pos (show b2 false = 0 from rfl)]
      refine ⟨v, nI (k + 1), ⟨hv, rfl, ?_⟩, rfl⟩
      rw [ys2_s, hLk, if_neg (by decide)]
      exact hs
    · rw [if_neg (show ¬ b2 true = 0 by decide), if_neg (show ¬ (2 : Int32) = 1 by decide)]
      refine fix2_p (10 * p - (k + 1)) (fun d v x => yTr u v ∧ x = nI (k + 1 + d) ∧ yrM (yt2 (yIs u.2.1 n p) (yOk2 (zCan u.2.1) (yMu u.2.1) n p many) cost k (ys2 (yIs u.2.1 n p) (yOk2 (zCan u.2.1) (yMu u.2.1) n p many) cost (10 * p) k) d) v) (fun o => ∃ y0 y1, (yTr u y0 ∧ y1 = nI (k + 1) ∧ yrM (ys2 (yIs u.2.1 n p) (yOk2 (zCan u.2.1) (yMu u.2.1) n p many) cost (10 * p) (k + 1)) y0) ∧ o = r y0 y1) ?_ ?_ (zFU_lt (by omega)) ⟨hv, rfl, hs⟩
      · rintro r2 d v x hdd ⟨hv, rfl, hs⟩
        have hd := yTr_dt hv
        have h1 := zSM_c h hd hv.1.1
        have hR1 : yRw (zCan v.2.1) n p v.2.1 := fun w hw => by rw [hv.2, zCan_f hd]; exact hR w hw
        have hL := M_isL h1 hR1 (show k + 1 + d < 2 ^ 31 by omega)
        rw [yIs_c hd] at hL
        left
        rw [gI_73 h1.1, zb_some, h1.2.2.2.2.2.1, pk_mul, if_neg (show ¬ nI (10 * p) ≤ nI (k + 1 + d) by rw [nI_leI (by omega) (by omega)]; omega), fo_73 h1.1, zb_some, hL, zb_some, show nI (k + 1 + d) + 1 = nI (k + 1 + (d + 1)) from nI_add (k + 1 + d) 1]
        cases hLj : yIs u.2.1 n p (k + 1 + d)
        · rw [if_pos (show b2 false = 0 from rfl)]
          refine ⟨v, nI (k + 1 + (d + 1)), ⟨hv, rfl, ?_⟩, rfl⟩
          rw [yt2_s, hLj, Bool.false_and, if_neg (by decide)]
          exact hs
        · obtain ⟨v', t1, t2, t3⟩ := M_tries2 (many := many) h1 hR1 hs (yt2_ok (ys2_ok k) d) (by rw [yIs_c hd]; exact hLk) (by rw [yIs_c hd]; exact hLj) (by omega) hmany
          rw [zCan_f hd, yMu_c hd, zCost_c hd, zCost_c hd, hce, hce] at t3
          rw [if_neg (show ¬ b2 true = 0 by decide), zb_some, t1, zb_some]
          refine ⟨v', nI (k + 1 + (d + 1)), ⟨yTr_tr hv t2, rfl, ?_⟩, rfl⟩
          rw [yt2_s, hLj, Bool.true_and]
          exact t3
      · rintro r2 v x ⟨hv, rfl, hs⟩
        have hd := yTr_dt hv
        have h1 := zSM_c h hd hv.1.1
        refine ⟨v, nI (k + 1), ⟨hv, rfl, ?_⟩, ?_⟩
        · rw [ys2_s, hLk, if_pos rfl]
          exact hs
        · rw [gI_73 h1.1, zb_some, h1.2.2.2.2.2.1, pk_mul, if_pos (show nI (10 * p) ≤ nI (k + 1 + (10 * p - (k + 1))) by rw [show k + 1 + (10 * p - (k + 1)) = 10 * p by omega]; exact Int32.le_refl _)]
  · rintro r v x ⟨hv, rfl, hs⟩
    have hd := yTr_dt hv
    have h1 := zSM_c h hd hv.1.1
    refine ⟨v, ?_, hv, hs⟩
    rw [gI_73 h1.1, zb_some, h1.2.2.2.2.2.1, show (10 : Int32) = nI 10 from rfl, pk_mul, if_pos (Int32.le_refl _)]
theorem M_find {u : zS} (h : zSM n p yr rl u) (hmany : many < 2 ^ 31) : ∃ v, F_M_findLessons u 73 (nI many) = some v ∧ yNs yBL u v ∧ yrM (yLs u.2.1 n p rl many) v := by
  have hn6 := h.2.1
  have hp7 := h.2.2.1
  have h2p := p2_le hp7
  obtain ⟨u1, a1, a2, a3⟩ := fc_N h
  have hd1 : zDt u.2.1 u1.2.1 := yNs_dt a2 (fun a k x => by omega)
  have f2 : zFr (zuI u1 73 38 (-1)) := fr_uI a2.1
  have hN2 : yNs yBL u (zuI u1 73 38 (-1)) := yNs_w (yNs_mo a2 (fun a k z => Or.inl (by omega))) (Or.inr (Or.inr (by omega)))
  have h38 : (zuI u1 73 38 (-1)).2.1 73 38 = (-1) := by rw [uI_at, if_pos ⟨rfl, rfl⟩]
  have h291 : ∀ w, (zuI u1 73 38 (-1)).2.1 91 w = u1.2.1 91 w := fun w => uI_off (by omega)
  have hd2 : zDt u.2.1 (zuI u1 73 38 (-1)).2.1 := yNs_dt hN2 (fun a k x => by unfold yBL at x; omega)
  generalize hu2 : zuI u1 73 38 (-1) = u2 at *
  have hm2 := yFm_N h hd2 (fun w hw => by rw [h291]; exact a3 w hw)
  obtain ⟨u3, w1, w2⟩ := M_worst (many := many) f2 hm2 hmany
  have hd3 : zDt u.2.1 u3.2.1 := fun a k z => by rw [w2.2.2.2 a k (by unfold yBW; omega), hd2 a k z]
  have h3 := zSM_c h hd3 w2.1
  have hN3 : yNs yBL u u3 := yNs_tr hN2 (yNs_mo w2 (fun a k z => by unfold yBW at z; unfold yBL; omega))
  have h338 : u3.2.1 73 38 = (-1) := (w2.2.2.2 73 38 (by unfold yBW; omega)).trans h38
  have hR3 : yRw (zCan u3.2.1) n p u3.2.1 := fun w hw => by rw [zCan_f hd3, w2.2.2.2 91 w (by unfold yBW; omega), h291]; exact a3 w hw
  have hneg := yfv_neg (P := yPw (zCan u.2.1) (yMu u.2.1) n p many) (N := 2 ^ p) (by omega)
  have hIsf : yIs u3.2.1 n p = yIs u.2.1 n p := funext (fun k => yIs_c hd3 k)
  have hCof : (fun k => zCost u3.2.1 rl (k / 10) (k % 10)) = (fun k => zCost u.2.1 rl (k / 10) (k % 10)) := funext (fun k => zCost_c hd3 _ _)
  unfold F_M_findLessons yLs
  rw [fo_73 h.1, zb_some, a1, zb_some, pI_73 a2.1, zb_some, hu2, fo_73 f2, zb_some, w1, zk_some]
  by_cases hno : yfi (yPw (zCan u.2.1) (yMu u.2.1) n p many) (2 ^ p) = none
  · have f4 : zFr (zuI u3 73 38 0) := fr_uI w2.1
    have f5 : zFr (zuI (zuI u3 73 38 0) 73 39 0) := fr_uI f4
    rw [if_neg (fun z => absurd (hneg.mpr hno) (Int32.not_lt.mpr z)), if_pos hno, pI_73 w2.1, zb_some, pI_73 f4, zb_some, pI_73 f5, zb_some]
    refine ⟨_, rfl, yNs_w (yNs_w (yNs_w hN3 (Or.inr (Or.inr (by omega)))) (Or.inr (Or.inr (by omega)))) (Or.inr (Or.inr (by omega))), ?_, fun _ => ⟨?_, ?_⟩⟩
    · rw [uI_at, if_neg (by omega), uI_at, if_neg (by omega), uI_at, if_pos ⟨rfl, rfl⟩]
    · rw [uI_at, if_neg (by omega), uI_at, if_pos ⟨rfl, rfl⟩]
    · rw [uI_at, if_pos ⟨rfl, rfl⟩]
  · obtain ⟨v, t1, t2, t3⟩ := M_try1 h3 hR3 h338 hmany
    rw [hIsf, hCof, zCan_f hd3, yMu_c hd3] at t3
    have hdv := yTr_dt t2
    rw [if_pos (Int32.not_lt.mp (fun z => hno (hneg.mp z))), if_neg hno, fo_73 w2.1, zb_some, t1, zb_some, gI_73 t2.1.1, zb_some, t3.1]
    have ok1 := ys1_ok (L := yIs u.2.1 n p) (ok := yOk1 (zCan u.2.1) (yMu u.2.1) n p many) (cost := fun k => zCost u.2.1 rl (k / 10) (k % 10)) (10 * p)
    generalize ys1 (yIs u.2.1 n p) (yOk1 (zCan u.2.1) (yMu u.2.1) n p many) (fun k => zCost u.2.1 rl (k / 10) (k % 10)) (10 * p) = s1 at *
    rcases ok1 with z | z
    · have hR4 : yRw (zCan v.2.1) n p v.2.1 := fun w hw => by rw [t2.2, zCan_f hdv]; exact hR3 w hw
      obtain ⟨v', b1, b2', b3⟩ := M_try2 (zSM_c h3 hdv t2.1.1) hR4 (t3.1.trans z) hmany
      have hdd : zDt u.2.1 v.2.1 := fun a k y => by rw [hdv a k y, hd3 a k y]
      rw [show yIs v.2.1 n p = yIs u.2.1 n p from funext (fun k => yIs_c hdd k), show (fun k => zCost v.2.1 rl (k / 10) (k % 10)) = (fun k => zCost u.2.1 rl (k / 10) (k % 10)) from funext (fun k => zCost_c hdd _ _), zCan_f hdd, yMu_c hdd] at b3
      rw [z, if_neg (show ¬ (0 : Int32) ≤ (-1) by decide), if_pos rfl, fo_73 t2.1.1, zb_some, b1, zb_some]
      exact ⟨v', rfl, yNs_tr hN3 (yNs_tr t2.1 b2'.1), b3⟩
    · rw [if_pos (Int32.not_lt.mp z), if_neg (fun y => z (by rw [y]; decide))]
      exact ⟨v, rfl, yNs_tr hN3 t2.1, t3⟩
theorem yLs_ok {e : Nat → Nat → Int32} : (yLs e n p rl many).1 = (-1) ∨ ¬ (yLs e n p rl many).1 < 0 := by
  unfold yLs
  split
  · exact Or.inr (show ¬ (0 : Int32) < 0 by decide)
  · split
    · exact ys2_ok _
    · exact ys1_ok _
theorem K_lessons (h : zSt n p yr tx rl tp c μ) (a b : Int32) : zOk c (fun u => F_X_lessons u 0 a b) (fun u => F_M_lessons u 73 a b) μ := by
  obtain ⟨hf, hP, hPe, hAs, hTa, hBa, hYr, hTp, hTx, hIm, hSh, hLt⟩ := id h
  have hn6 := hP.1
  have hp7 := hPe.1
  have n1 : ¬ nI 1 = 0 := by decide
  have n0 : nI 0 = 0 := rfl
  have h2p := p2_le hp7
  have nn : ∀ {x : Int32}, ¬ (nI 0 ≤ x ∧ x < nI 3) → ¬ x < 0 → ¬ x ≤ 2 := by
    intro x hx h0 h1
    refine hx ⟨Int32.not_lt.mp h0, ?_⟩
    rw [fa_le, show (2 : Int32).toInt = 2 by decide] at h1
    rw [fa_lt, nI_toInt (by decide)]
    omega
  rcases zcase a (n := 3) (by decide) with ⟨many, hm, rfl⟩ | ha
  · have ea := zc_lt hm (show 3 < 2 ^ 31 by decide)
    have q0 : ¬ nI many < 0 := nI_lt0 (by omega)
    have q2 : ¬ (2 : Int32) < nI many := by rw [show (2 : Int32) = nI 2 from rfl, nI_ltI (by omega) (by omega)]; omega
    rcases zcase b (n := 3) (by decide) with ⟨what, hw, rfl⟩ | hb
    · have eb := zc_lt hw (show 3 < 2 ^ 31 by decide)
      have r0 : ¬ nI what < 0 := nI_lt0 (by omega)
      have r2 : nI what ≤ (2 : Int32) := by rw [show (2 : Int32) = nI 2 from rfl, nI_leI (by omega) (by omega)]; omega
      obtain ⟨u, x1, x2, x3, -⟩ := X_look h
      have x3' := x3
      obtain ⟨-, -, ⟨mb, m1, m2, m3⟩, -⟩ := x3'
      have h1 := zSt_ag h (yBC_ag (tx := tx) x2)
      have hd := yBC_dt x2
      -- the course is cleared
      have f1 : zFr (zuI u 13 0 0) := fr_uI x2.1
      have f2 : zFr (zuI (zuI u 13 0 0) 13 4 0) := fr_uI f1
      have f3 : zFr (zuI (zuI (zuI u 13 0 0) 13 4 0) 13 5 0) := fr_uI f2
      have hclear : F_Course_clear u 13 = some (zuI (zuI (zuI (zuI u 13 0 0) 13 4 0) 13 5 0) 13 6 0) := by
        unfold F_Course_clear
        rw [pI_13 x2.1, zb_some, pI_13 f1, zb_some, pI_13 f2, zb_some, pI_13 f3, zb_some]
      have hN4 : yNj yBK u (zuI (zuI (zuI (zuI u 13 0 0) 13 4 0) 13 5 0) 13 6 0) := yNj_w (yNj_w (yNj_w (yNj_w (yNj_rf x2.1) (Or.inr (Or.inr (by omega)))) (Or.inr (Or.inr (by omega)))) (Or.inr (Or.inr (by omega)))) (Or.inr (Or.inr (by omega)))
      have g0 : (zuI (zuI (zuI (zuI u 13 0 0) 13 4 0) 13 5 0) 13 6 0).2.1 13 0 = 0 := by rw [uI_at, if_neg (by omega), uI_at, if_neg (by omega), uI_at, if_neg (by omega), uI_at, if_pos ⟨rfl, rfl⟩]
      have g4 : (zuI (zuI (zuI (zuI u 13 0 0) 13 4 0) 13 5 0) 13 6 0).2.1 13 4 = 0 := by rw [uI_at, if_neg (by omega), uI_at, if_neg (by omega), uI_at, if_pos ⟨rfl, rfl⟩]
      have g5 : (zuI (zuI (zuI (zuI u 13 0 0) 13 4 0) 13 5 0) 13 6 0).2.1 13 5 = 0 := by rw [uI_at, if_neg (by omega), uI_at, if_pos ⟨rfl, rfl⟩]
      have g6 : (zuI (zuI (zuI (zuI u 13 0 0) 13 4 0) 13 5 0) 13 6 0).2.1 13 6 = 0 := by rw [uI_at, if_pos ⟨rfl, rfl⟩]
      generalize zuI (zuI (zuI (zuI u 13 0 0) 13 4 0) 13 5 0) 13 6 0 = v at *
      have bk : ∀ {x y : zS}, yNj yBK x y → zAg tx x y := fun hh => yNj_ag hh (fun a k x y => by unfold zess at y; unfold yBK at x; omega)
      have h4 := zSt_ag h1 (bk hN4)
      have hd4 : zDt μ.2.1 v.2.1 := fun a k z => by rw [hN4.2.2.2 a k (by unfold yBK; omega), hd a k z]
      have cvk : ∀ {y : zS}, yNj yBK u y → yCv (zCan μ.2.1) (yMu μ.2.1) n p y.2.1 ∧ y.2.1 6 0 = nI mb := by
        intro y hy
        have e6 : ∀ k, y.2.1 6 k = u.2.1 6 k := fun k => hy.2.2.2 6 k (by unfold yBK; omega)
        have e8 : ∀ k, y.2.1 8 k = u.2.1 8 k := fun k => hy.2.2.2 8 k (by unfold yBK; omega)
        exact ⟨⟨hn6, hp7, ⟨mb, m1, by rw [e6]; exact m2, m3⟩, fun S hS => by rw [e8]; exact x3.2.2.2 S hS⟩, by rw [e6]; exact m2⟩
      obtain ⟨hcv, h60⟩ := cvk hN4
      have hb := X_bears (many := many) hN4.1 hcv m1 h60 m3 (by omega)
      -- what is found
      have hfind : ∃ w, (∀ (K : zS → Option (Int32 × zS)), zjn1 (fun (j13 : zS → Option (Int32 × zS)) => if b2 (yfi (yPw (zCan μ.2.1) (yMu μ.2.1) n p many) (2 ^ p)).isNone = 0 then ((zob v 8 (some 0)).bind fun q24 => (F_X_offerLessons v q24 ).bind fun u23 => (zgR u23 8 (some 0) 10).bind fun v25 => (zgR u23 8 (some 0) 8).bind fun v26 => (zob u23 1 v26).bind fun q28 => (F_Cover_lacking u23 q28 (nI many) 1).bind fun v27 => (zgR u23 8 (some 0) 8).bind fun v29 => (zob u23 1 v29).bind fun q31 => (F_Cover_lacking u23 q31 (nI many) 2).bind fun v30 => (zgR u23 8 (some 0) 8).bind fun v32 => (zob u23 1 v32).bind fun q34 => (F_Cover_lacking u23 q34 (nI many) 3).bind fun v33 => (zob u23 0 v25).bind fun q37 => (F_Course_seek u23 q37 v27 v30 v33).bind fun u36 => j13 u36) else (j13 v)) K = K w) ∧ yNj yBK u w ∧ yrX (yLs μ.2.1 n p rl many) w := by
        by_cases hno : yfi (yPw (zCan μ.2.1) (yMu μ.2.1) n p many) (2 ^ p) = none
        · refine ⟨v, fun K => ?_, hN4, ?_⟩
          · rw [zjn1_eq, hno, if_neg (show ¬ b2 (none : Option Nat).isNone = 0 by decide)]
          · unfold yLs
            rw [if_pos hno]
            exact ⟨g4, fun _ => ⟨g5, g6⟩⟩
        · have hmp : many ≤ p := by
            apply Classical.byContradiction
            intro z
            exact hno ((ybear hn6 hp7).mpr (Or.inl (by omega)))
          obtain ⟨v5, o1, o2, o3⟩ := X_offers h h4 hd4 hcv g0
          have hN5 := yNj_tr hN4 o2
          obtain ⟨hcv5, h605⟩ := cvk hN5
          obtain ⟨a1, l1, l1'⟩ := X_lack (least := 1) (many := many) o2.1 hcv5 m1 h605 (by omega) (by decide)
          obtain ⟨a2, l2, l2'⟩ := X_lack (least := 2) (many := many) o2.1 hcv5 m1 h605 (by omega) (by decide)
          obtain ⟨a3, l3, l3'⟩ := X_lack (least := 3) (many := many) o2.1 hcv5 m1 h605 (by omega) (by decide)
          obtain ⟨w, s1, s2, s3⟩ := X_seek (many := many) (rl := rl) hn6 hp7 m1 m3 hmp o2.1 o3 l1' l2' l3' hno
          refine ⟨w, fun K => ?_, yNj_tr hN5 (yNj_of s2 (fun a k z => by unfold yB46 at z; unfold yBK; omega)), s3⟩
          have hsm : b2 (yfi (yPw (zCan μ.2.1) (yMu μ.2.1) n p many) (2 ^ p)).isNone = 0 := by
            cases z : yfi (yPw (zCan μ.2.1) (yMu μ.2.1) n p many) (2 ^ p) with
            | none => exact absurd z hno
            | some i => rfl
          have l1c : F_Cover_lacking v5 6 (nI many) 1 = some a1 := l1
          have l2c : F_Cover_lacking v5 6 (nI many) 2 = some a2 := l2
          have l3c : F_Cover_lacking v5 6 (nI many) 3 = some a3 := l3
          rw [zjn1_eq, if_pos hsm, fo_0 hN4.1, zb_some, o1, zb_some]
          simp only [gR_0_10 o2.1, gR_0_8 o2.1, fo_6 o2.1, fo_13 o2.1, zb_some, l1c, l2c, l3c, s1]
      obtain ⟨w, k1, k2, k3⟩ := hfind
      have hag : zAg tx μ w := zAg_tr (yBC_ag x2) (bk k2)
      have h5 := zSt_ag h hag
      have hd5 : zDt μ.2.1 w.2.1 := fun a k z => by rw [k2.2.2.2 a k (by unfold yBK; omega), hd a k z]
      obtain ⟨u', t1, t2, t3⟩ := M_find (many := many) (zSM_of h5) (by omega)
      have eLs : yLs w.2.1 n p rl many = yLs μ.2.1 n p rl many := by
        unfold yLs
        rw [show yIs w.2.1 n p = yIs μ.2.1 n p from funext (fun k => yIs_c hd5 k), show (fun k => zCost w.2.1 rl (k / 10) (k % 10)) = (fun k => zCost μ.2.1 rl (k / 10) (k % 10)) from funext (fun k => zCost_c hd5 _ _), zCan_f hd5, yMu_c hd5]
      rw [eLs] at t3
      have hok := yLs_ok (e := μ.2.1) (n := n) (p := p) (rl := rl) (many := many)
      generalize yLs μ.2.1 n p rl many = s at *
      have iM : F_M_in w (nI many).toInt64 0 2 = some (nI 1) := by rw [M_inL w (nI many) 2 (by decide) (z := 2) rfl, if_pos ea]
      have iM2 : F_M_in w (nI what).toInt64 0 2 = some (nI 1) := by rw [M_inL w (nI what) 2 (by decide) (z := 2) rfl, if_pos eb]
      refine zOk_ag h (v := if s.1 = (-1) then (-1) else if what = 0 then s.1 else if what = 1 then s.2.1 else s.2.2) (μ1 := w) (μ2 := u') ?_ hag ?_ (yNs_ag t2 (fun a k x y => by unfold zess at y; unfold yBL at x; omega))
      · unfold F_X_lessons
        rw [if_neg q0, if_neg q2, if_neg r0, if_pos r2, fo_0 hf, zb_some, x1, zb_some, gR_0_10 x2.1, zb_some, fo_13 x2.1, zb_some, hclear, zb_some, gR_0_8 hN4.1, zb_some, gI_0 hN4.1, zb_some, h4.2.2.1.2.1, fo_6 hN4.1, zb_some, hb, zb_some, k1, gR_0_10 k2.1, zb_some, gI_13 k2.1, zb_some, k3.1]
        by_cases z : s.1 = (-1)
        · rw [if_pos z, if_pos z]
        · rw [if_neg z, if_neg z]
          rcases (show what = 0 ∨ what = 1 ∨ what = 2 by omega) with rfl | rfl | rfl
          · rw [if_pos n0, if_pos rfl, zb_some, gI_13 k2.1, zb_some, k3.1]
          · rw [if_neg n1, if_pos (show nI 1 = 1 from rfl), if_neg (by decide), if_pos rfl, zb_some, gI_13 k2.1, zb_some, (k3.2 z).1]
          · rw [if_neg (show ¬ nI 2 = 0 by decide), if_neg (show ¬ nI 2 = 1 by decide), if_neg (by decide), if_neg (by decide), zb_some, gI_13 k2.1, zb_some, (k3.2 z).2]
      · unfold F_M_lessons
        rw [iM, zb_some, if_neg n1, iM2, zb_some, if_neg n1, fo_73 h5.1, zb_some, t1, zb_some, gI_73 t2.1, zb_some, t3.1]
        rcases hok with z | z
        · rw [z, if_neg (show ¬ (0 : Int32) ≤ (-1) by decide), if_pos rfl]
        · have z' : s.1 ≠ (-1) := fun y => z (by rw [y]; decide)
          rw [if_pos (Int32.not_lt.mp z), if_neg z']
          rcases (show what = 0 ∨ what = 1 ∨ what = 2 by omega) with rfl | rfl | rfl
          · rw [if_pos n0, if_pos rfl, zb_some]
          · rw [if_neg n1, if_pos (show nI 1 = 1 from rfl), if_neg (by decide), if_pos rfl, gI_73 t2.1, zb_some, (t3.2 z').1]
          · rw [if_neg (show ¬ nI 2 = 0 by decide), if_neg (show ¬ nI 2 = 1 by decide), if_neg (by decide), if_neg (by decide), gI_73 t2.1, zb_some, (t3.2 z').2]
    · refine zOk_same (v := -2) h ?_ ?_
      · unfold F_X_lessons
        rw [if_neg q0, if_neg q2]
        by_cases q : b < 0
        · rw [if_pos q]
        · rw [if_neg q, if_neg (nn hb q)]
      · unfold F_M_lessons
        rw [M_inL μ (nI many) 2 (by decide) (z := 2) rfl, if_pos ea, zb_some, if_neg n1, M_inL μ b 2 (by decide) (z := 2) rfl, if_neg hb, zb_some, if_pos n0]
  · refine zOk_same (v := -2) h ?_ ?_
    · unfold F_X_lessons
      by_cases q : a < 0
      · rw [if_pos q]
      · rw [if_neg q, if_pos (Int32.not_le.mp (nn ha q))]
    · unfold F_M_lessons
      rw [M_inL μ a 2 (by decide) (z := 2) rfl, if_neg ha, zb_some, if_pos n0]
end S
