-- ===== what a text comes to: the reference; both =====
section S
variable {n p yr tx rl tp c : Nat} {μ : zS} {ac : Nat → Int32}
theorem M_says {w q part f0 m : Nat} (h : zSt n p yr tx rl tp c μ) (hw : w < p) (hq : q < n) (hp : part < 3) (hf0 : μ.2.1 86 (3 * rl + part) = nI f0) (hf1 : μ.2.1 87 (3 * rl + part) = nI (f0 + m)) (hf1b : f0 + m ≤ 3570) (hac : ∀ j, j < m → μ.2.1 85 (f0 + j) = ac j) (hr : zrun ((List.range m).map ac) 0 = some 1) :
    ∃ x0 x1 x2 x3 x4 x5, F_M_says μ 73 (nI part) (nI w) (nI q) = some ((zst (zNm μ.2.1 w q) ac m).headD 0, zmem (zNm μ.2.1 w q) ac 89 (zw6 μ 90 x0 x1 x2 x3 x4 x5) m) := by
  obtain ⟨hf, hP, hPe, hAs, hTa, hBa, hYr, hTp, hTx, hIm, hSh, hLt⟩ := id h
  have hn6 := hP.1
  have hp7 := hPe.1
  have hw7 : w < 7 := by omega
  have hq6 : q < 6 := by omega
  have hrl : rl < 6 := by have := hTx.2.1; have := hTx.2.2.2.2.1; omega
  have hm01 := hP.2.2.2.1 q hq6
  have hyr := zyr_c h
  have hnc := zn_c h
  generalize hx0 : (if μ.2.1 77 w = nI q then (1 : Int32) else 0) = x0
  generalize hx3 : (if μ.2.1 74 q = 0 then (0 : Int32) else 1) = x3
  generalize hx2 : zsn yr (μ.2.1 82 (6 * w + q)) (μ.2.1 81 (6 * w + q)) = x2
  generalize hx5 : nI (zct (fun q => !decide (μ.2.1 82 (6 * w + q) = 0)) n) = x5
  have f1 : zFr (zuI μ 90 0 x0) := fr_uI hf
  have f2 : zFr (zuI (zuI μ 90 0 x0) 90 1 (μ.2.1 78 w)) := fr_uI f1
  have f3 : zFr (zuI (zuI (zuI μ 90 0 x0) 90 1 (μ.2.1 78 w)) 90 2 x2) := fr_uI f2
  have f4 : zFr (zuI (zuI (zuI (zuI μ 90 0 x0) 90 1 (μ.2.1 78 w)) 90 2 x2) 90 3 x3) := fr_uI f3
  have f5 : zFr (zuI (zuI (zuI (zuI (zuI μ 90 0 x0) 90 1 (μ.2.1 78 w)) 90 2 x2) 90 3 x3) 90 4 (μ.2.1 75 q)) := fr_uI f4
  have f6 : zFr (zw6 μ 90 x0 (μ.2.1 78 w) x2 x3 (μ.2.1 75 q) x5) := fr_uI f5
  have s0 : ∀ {u : zS} (hu : zFr u) v, zsI u (some 90) 0 v = some (zuI u 90 0 v) := fun hu v => sI_90 hu (j := 0) (by decide)
  have s1 : ∀ {u : zS} (hu : zFr u) v, zsI u (some 90) 1 v = some (zuI u 90 1 v) := fun hu v => sI_90 hu (j := 1) (by decide)
  have s2 : ∀ {u : zS} (hu : zFr u) v, zsI u (some 90) 2 v = some (zuI u 90 2 v) := fun hu v => sI_90 hu (j := 2) (by decide)
  have s3 : ∀ {u : zS} (hu : zFr u) v, zsI u (some 90) 3 v = some (zuI u 90 3 v) := fun hu v => sI_90 hu (j := 3) (by decide)
  have s4 : ∀ {u : zS} (hu : zFr u) v, zsI u (some 90) 4 v = some (zuI u 90 4 v) := fun hu v => sI_90 hu (j := 4) (by decide)
  have s5 : ∀ {u : zS} (hu : zFr u) v, zsI u (some 90) 5 v = some (zuI u 90 5 v) := fun hu v => sI_90 hu (j := 5) (by decide)
  have g2 := M_yearsOf (yr := yr) f2 hw7 hq6 (by rw [uI_off (by omega), uI_off (by omega)]; exact hYr.2.2)
  rw [uI_off (by omega), uI_off (by omega), uI_off (by omega), uI_off (by omega), hx2] at g2
  have g5 := M_had f5 hw7 (by rw [uI_off (by omega), uI_off (by omega), uI_off (by omega), uI_off (by omega), uI_off (by omega)]; exact hP.2.2.1) hn6
  have g5' : (fun j => !decide ((zuI (zuI (zuI (zuI (zuI μ 90 0 x0) 90 1 (μ.2.1 78 w)) 90 2 x2) 90 3 x3) 90 4 (μ.2.1 75 q)).2.1 82 (6 * w + j) = 0)) = (fun q => !decide (μ.2.1 82 (6 * w + q) = 0)) := by
    funext j
    rw [uI_off (by omega), uI_off (by omega), uI_off (by omega), uI_off (by omega), uI_off (by omega)]
  rw [g5', hx5] at g5
  have hnm : ∀ k, k < 6 → (zw6 μ 90 x0 (μ.2.1 78 w) x2 x3 (μ.2.1 75 q) x5).2.1 90 k = zNm μ.2.1 w q k := by
    intro k hk
    rw [zw6_at hk]
    unfold zNm
    rw [hyr, hnc, hx0, hx2, hx5]
    have e3 : x3 = μ.2.1 74 q := by
      rw [← hx3]
      rcases hm01 with z | z <;> rw [z] <;> decide
    rw [e3]
  refine ⟨x0, μ.2.1 78 w, x2, x3, μ.2.1 75 q, x5, ?_⟩
  have hr17 : (zw6 μ 90 x0 (μ.2.1 78 w) x2 x3 (μ.2.1 75 q) x5).2.1 73 17 = nI rl := by rw [zw6_off (by omega)]; exact hTx.2.2.2.2.2.2.1
  unfold F_M_says
  rw [gR_73_31 hf, zb_some, gR_73_6 hf, zb_some, aI_77 hf hw7, zb_some, zjn_if, hx0, s0 hf, zb_some, gR_73_31 f1, zb_some, gR_73_7 f1, zb_some, aI_78 f1 hw7, zb_some, uI_off (by omega), s1 f1, zb_some, gR_73_31 f2, zb_some, fo_73 f2, zb_some, g2, zb_some, s2 f2, zb_some, gR_73_31 f3, zb_some, gR_73_2 f3, zb_some, aI_74 f3 hq6, zb_some, uI_off (by omega), uI_off (by omega), uI_off (by omega), zjn_if, hx3, s3 f3, zb_some, gR_73_31 f4, zb_some, gR_73_3 f4, zb_some, aI_75 f4 hq6, zb_some, uI_off (by omega), uI_off (by omega), uI_off (by omega), uI_off (by omega), s4 f4, zb_some, gR_73_31 f5, zb_some, fo_73 f5, zb_some, g5, zb_some, s5 f5, zb_some]
  rw [show zuI (zuI (zuI (zuI (zuI (zuI μ 90 0 x0) 90 1 (μ.2.1 78 w)) 90 2 x2) 90 3 x3) 90 4 (μ.2.1 75 q)) 90 5 x5 = zw6 μ 90 x0 (μ.2.1 78 w) x2 x3 (μ.2.1 75 q) x5 from rfl]
  have h3 : ((3 : Int32) * nI rl) + nI part = nI (3 * rl + part) := by
    rw [show (3 : Int32) = nI 3 from rfl, pk_mul, nI_add]
  rw [gR_73_19 f6, zb_some, gI_73 f6, zb_some, hr17, h3, aI_86 f6 (by omega), zb_some, zw6_off (by omega), hf0]
  generalize hu : zw6 μ 90 x0 (μ.2.1 78 w) x2 x3 (μ.2.1 75 q) x5 = u at *
  have uo : ∀ a k, a ≠ 90 → u.2.1 a k = μ.2.1 a k := by
    intro a k ha
    rw [← hu, zw6_off ha]
  generalize zNm μ.2.1 w q = nm at *
  refine fix3_t m (fun i => zmem nm ac 89 u i) (fun i => nI (zst nm ac i).length) (fun i => nI (f0 + i)) ?_ ?_ (zFU_lt (by omega))
  · intro r i hi
    have gu := zmem_fr (nm := nm) (ac := ac) (A := 89) f6 i
    have go := (zmem_off (nm := nm) (ac := ac) (A := 89) (μ := u) i).2.2
    obtain ⟨d, hd⟩ := zrun_pre m hr i (by omega)
    obtain ⟨d', hd'⟩ := zrun_pre m hr (i + 1) (by omega)
    have hl := zst_len (nm := nm) i d hd
    have hl' := zst_len (nm := nm) (i + 1) d' hd'
    have hd40 : d ≤ 40 := zrun_40 i d hd
    have hrow := zmem_row (nm := nm) (A := 89) (μ := u) i d hd
    have hst : zst nm ac (i + 1) = zpush nm (ac i) (zst nm ac i) := rfl
    have hmm : zmem nm ac 89 u (i + 1) = zuI (zmem nm ac 89 u i) 89 ((zst nm ac (i + 1)).length - 1) ((zst nm ac (i + 1)).headD 0) := rfl
    have hstep := zrun_step hd hd'
    try dsimp only at hrow ⊢
    rw [gR_73_20 gu, zb_some, gI_73 gu, zb_some, go 73 17 (by omega), hr17, h3, aI_87 gu (by omega), zb_some, go 87 _ (by omega), uo 87 _ (by omega), hf1, if_neg (show ¬ nI (f0 + m) ≤ nI (f0 + i) by rw [nI_leI (by omega) (by omega)]; omega), gR_73_18 gu, zb_some, aI_85 gu (by omega), zb_some, go 85 _ (by omega), uo 85 _ (by omega), hac i hi, show nI (f0 + i) + 1 = nI (f0 + (i + 1)) from nI_add (f0 + i) 1, hl, hmm, hl', hst]
    rcases hstep with ⟨q1, q2, q3⟩ | ⟨q1, q2, q3⟩ | ⟨q1, q2, q3⟩
    · have hneg : ¬ ac i ≤ (-100) := by
        have z1 := (fa_le _ _).mp q1.1
        intro z2
        have z3 := (fa_le _ _).mp z2
        rw [show (-6 : Int32).toInt = -6 by decide] at z1
        rw [show (-100 : Int32).toInt = -100 by decide] at z3
        omega
      rw [if_neg hneg, gR_73_30 gu, zb_some, gR_73_31 gu, zb_some, zpush_1 q1, q3, show nI d + 1 = nI (d + 1) from nI_add d 1, Nat.add_sub_cancel]
      rcases Classical.em (ac i < 0) with z | z
      · obtain ⟨k, hk, hke⟩ := zneg q1.1 z
        obtain ⟨e1, e2, e3, e4⟩ := znegs ⟨k, hk⟩
        rw [hke, if_neg e4, if_neg e4, e2, aI_90 gu hk, zb_some, go 90 k (by omega), hnm k hk, sI_89 gu (by omega), zb_some, nI_clamp (by omega)]
        rfl
      · rw [if_pos (Int32.not_lt.mp z), if_pos (Int32.not_lt.mp z), sI_89 gu (by omega), zb_some]
        rfl
    · have htop := zrow_top hrow (by omega)
      rw [hl] at htop
      rcases q1 with q1 | q1
      · rw [q1, if_pos (show (-100 : Int32) ≤ -100 by decide), if_pos rfl, gR_73_30 gu, zb_some, zb_some, nI_sub1 (by omega), aI_89 gu (by omega), zb_some, sI_89 gu (by omega), zb_some, zpush_2, q3, htop]
        rfl
      · rw [q1, if_pos (show (-101 : Int32) ≤ -100 by decide), if_neg (show ¬ (-101 : Int32) = -100 by decide), if_pos rfl, gR_73_30 gu, zb_some, zb_some, nI_sub1 (by omega), aI_89 gu (by omega), zb_some, sI_89 gu (by omega), sI_89 gu (by omega), zb_some, zb_some, zpush_3, q3, htop]
        by_cases z : (zst nm ac i).headD 0 = 0
        · rw [if_pos z, if_pos z]; rfl
        · rw [if_neg z, if_neg z]; rfl
    · have htop := zrow_top hrow (by omega)
      have htop2 := zrow_top2 hrow (by omega)
      rw [hl] at htop htop2
      have hz : ac i ≤ (-100) ∧ ¬ ac i = (-100) ∧ ¬ ac i = (-101) := by
        rcases q1 with q | q | q | q | q | q | q <;> rw [q] <;> decide
      rw [if_pos hz.1, if_neg hz.2.1, if_neg hz.2.2, gR_73_30 gu, zb_some, zb_some, nI_m1 (by omega), nI_sub1 (by omega), aI_89 gu (by omega), zb_some, zb_some, aI_89 gu (by omega), zb_some, M_reck, zb_some, sI_89 gu (by omega), zb_some, zpush_4 q1, q3, htop, htop2, List.headD_cons]
  · intro r
    have gu := zmem_fr (nm := nm) (ac := ac) (A := 89) f6 m
    have go := (zmem_off (nm := nm) (ac := ac) (A := 89) (μ := u) m).2.2
    have hl := zst_len (nm := nm) m 1 hr
    have hrow := zmem_row (nm := nm) (A := 89) (μ := u) m 1 hr
    have htop := zrow_top hrow (by omega)
    rw [hl] at htop
    try dsimp only at htop ⊢
    have a0 : zaI (zmem nm ac 89 u m) .int (some 89) 0 = some ((zmem nm ac 89 u m).2.1 89 0) := aI_89 gu (j := 0) (by decide)
    rw [gR_73_20 gu, zb_some, gI_73 gu, zb_some, go 73 17 (by omega), hr17, h3, aI_87 gu (by omega), zb_some, go 87 _ (by omega), uo 87 _ (by omega), hf1, if_pos (Int32.le_refl _), gR_73_30 gu, zb_some, a0, zb_some]
    rw [← htop]
end S
