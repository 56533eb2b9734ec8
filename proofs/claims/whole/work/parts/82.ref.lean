-- ===== the reference by itself =====
/-- what the reference's own places hold -/
def zSM (n p yr rl : Nat) (μ : zS) : Prop := zFr μ ∧ n ≤ 6 ∧ p ≤ 7 ∧ yr ≤ 99 ∧ μ.2.1 73 1 = nI n ∧ μ.2.1 73 4 = nI p ∧ μ.2.1 73 10 = nI yr ∧ (∀ q, q < 6 → μ.2.1 74 q = 0 ∨ μ.2.1 74 q = 1) ∧ (∀ q, q < n → zRg (μ.2.1 75 q) 99) ∧ (∀ w, w < p → zRg (μ.2.1 76 w) 5 ∧ zRg (μ.2.1 77 w) 5 ∧ (μ.2.1 77 w).toNatClampNeg < n ∧ zRg (μ.2.1 78 w) 9 ∧ zRg (μ.2.1 79 w) 9) ∧ (∀ w, w < 7 → ∀ q, q < 6 → (μ.2.1 82 (6 * w + q) = 0 ∨ μ.2.1 82 (6 * w + q) = 1) ∧ (μ.2.1 83 (6 * w + q) = 0 ∨ μ.2.1 83 (6 * w + q) = 1)) ∧ rl < 6 ∧ μ.2.1 73 17 = nI rl ∧ ∀ part, part < 3 → zRg (μ.2.1 86 (3 * rl + part)) 3060 ∧ zRg (μ.2.1 87 (3 * rl + part)) 3060 ∧ (μ.2.1 86 (3 * rl + part)).toNatClampNeg ≤ (μ.2.1 87 (3 * rl + part)).toNatClampNeg ∧ zrun ((List.range (zAm μ.2.1 rl part)).map (zAc μ.2.1 rl part)) 0 = some 1
section S
variable {n p yr tx rl tp c : Nat} {μ : zS} {ac : Nat → Int32}
theorem zSM_of (h : zSt n p yr tx rl tp c μ) : zSM n p yr rl μ := by
  obtain ⟨hf, hP, hPe, hAs, hTa, hBa, hYr, hTp, hTx, hIm, hSh, hLt⟩ := id h
  have hrl : rl < 6 := by have := hTx.2.1; have := hTx.2.2.2.2.1; omega
  have hn6 := hP.1
  have hp7 := hPe.1
  refine ⟨hf, hn6, hp7, hYr.1, hP.2.2.1, hPe.2.2.1, hYr.2.2, hP.2.2.2.1, fun q hq => (hP.2.2.2.2.2.2.2 q (by omega) hq).2, fun w hw => ?_, fun w hw q hq => ⟨?_, ((hBa w hw).1.2 q hq).1⟩, hrl, hTx.2.2.2.2.2.2.1, fun part hp => ?_⟩
  · obtain ⟨k1, k2, k3, k4, k5, k6, k7, k8, k9⟩ := hPe.2.2.2 w (by omega) hw
    exact ⟨k2, k4, k5, k7, k9⟩
  · rcases (hTa w hw q hq).1 with z | z
    · exact Or.inl z.1
    · exact Or.inr z.1
  · obtain ⟨t1, t2, t3, g1, g2, g3, g4, g5, g6, g7⟩ := hTx.2.2.2.2.2.2.2 rl hrl hTx.2.2.2.2.1 part hp
    generalize hs0 : (if part = 0 then 0 else (μ.2.1 (41 + 4 * rl) (part - 1)).toNatClampNeg) = s0 at *
    have hm : zAm μ.2.1 rl part = (μ.2.1 (41 + 4 * rl) part).toNatClampNeg - s0 := by unfold zAm; omega
    refine ⟨t2, t3, by omega, ?_⟩
    rw [hm]
    exact g7
theorem zSM_c {u : zS} (h : zSM n p yr rl μ) (hd : zDt μ.2.1 u.2.1) (hf : zFr u) : zSM n p yr rl u := by
  obtain ⟨-, hn6, hp7, hy99, h1, h4, h10, h74, h75, hpe, htb, hrl, h17, htx⟩ := h
  have e1 : zAc u.2.1 rl = zAc μ.2.1 rl := by
    funext part j
    unfold zAc
    rw [hd 86 _ (by omega), hd 85 _ (by omega)]
  have e2 : zAm u.2.1 rl = zAm μ.2.1 rl := by
    funext part
    unfold zAm
    rw [hd 86 _ (by omega), hd 87 _ (by omega)]
  refine ⟨hf, hn6, hp7, hy99, (hd _ _ (by omega)).trans h1, (hd _ _ (by omega)).trans h4, (hd _ _ (by omega)).trans h10, fun q hq => ?_, fun q hq => ?_, fun w hw => ?_, fun w hw q hq => ?_, hrl, (hd _ _ (by omega)).trans h17, fun part hp => ?_⟩
  · rw [hd 74 q (by omega)]; exact h74 q hq
  · rw [hd 75 q (by omega)]; exact h75 q hq
  · rw [hd 76 w (by omega), hd 77 w (by omega), hd 78 w (by omega), hd 79 w (by omega)]; exact hpe w hw
  · rw [hd 82 _ (by omega), hd 83 _ (by omega)]; exact htb w hw q hq
  · rw [e1, e2, hd 86 _ (by omega), hd 87 _ (by omega)]; exact htx part hp
theorem can_N {w q : Nat} (h : zSM n p yr rl μ) (hw : w < p) (hq : q < n) : F_M_canDo μ 73 (nI w) (nI q) = some (b2 (zCan μ.2.1 w q)) := by
  obtain ⟨hf, hn6, hp7, hy99, h1, h4, h10, h74, h75, hpe, htb, hrl, h17, htx⟩ := id h
  obtain ⟨k2, k4, k5, k7, -⟩ := hpe w hw
  have hb := (htb w (by omega) q (by omega))
  have hv := h75 q hq
  have hyr : (μ.2.1 73 10).toNatClampNeg = yr := by rw [h10]; exact nI_clamp (by omega)
  have hM := M_can (yr := yr) hf (show w < 7 by omega) (show q < 6 by omega) k2.2 (by have := k2.1; omega) k4.2 (by have := k4.1; omega) k7.2 (b2_dec hb.2) (b2_dec (h74 q (by omega))) hv.2 hv.1 h10 rfl hb.1 rfl
  rw [hM]
  unfold zCan
  rw [hyr]
theorem says_N {w q part f0 m : Nat} (h : zSM n p yr rl μ) (hw : w < p) (hq : q < n) (hp : part < 3) (hf0 : μ.2.1 86 (3 * rl + part) = nI f0) (hf1 : μ.2.1 87 (3 * rl + part) = nI (f0 + m)) (hf1b : f0 + m ≤ 3570) (hac : ∀ j, j < m → μ.2.1 85 (f0 + j) = ac j) (hr : zrun ((List.range m).map ac) 0 = some 1) :
    ∃ x0 x1 x2 x3 x4 x5, F_M_says μ 73 (nI part) (nI w) (nI q) = some ((zst (zNm μ.2.1 w q) ac m).headD 0, zmem (zNm μ.2.1 w q) ac 89 (zw6 μ 90 x0 x1 x2 x3 x4 x5) m) := by
  obtain ⟨hf, hn6, hp7, hy99, h1, h4, h10, h74, h75, hpe, htb, hrl, h17, htx⟩ := id h
  have hw7 : w < 7 := by omega
  have hq6 : q < 6 := by omega
  have hm01 := h74 q hq6
  have hyr : (μ.2.1 73 10).toNatClampNeg = yr := by rw [h10]; exact nI_clamp (by omega)
  have hnc : (μ.2.1 73 1).toNatClampNeg = n := by rw [h1]; exact nI_clamp (by omega)
  generalize hx0 : (if μ.2.1 77 w = nI q then (1 : Int32) else 0) = x0
  generalize hx3 : (if μ.2.1 74 q = 0 then (0 : Int32) else 1) = x3
  generalize hx2 : zsn yr (μ.2.1 82 (6 * w + q)) (μ.2.1 81 (6 * w + q)) = x2
  generalize hx5 : nI (zct (fun q => !decide (μ.2.1 82 (6 * w + q) = 0)) n) = x5
  have f1 : zFr (zuI μ 90 0 x0) := fr_uI hf
  have f2 : zFr (zuI (zuI μ 90 0 x0) 90 1 (μ.2.1 78 w)) := fr_uI f1
  have f3 : zFr (zuI (zuI (zuI μ 90 0 x0) 90 1 (μ.2.1 78 w)) 90 2 x2) := fr_uI f2
  have f4 : zFr (zuI (zuI (zuI (zuI μ 90 0 x0) 90 1 (μ.2.1 78 w)) 90 2 x2) 90 3 x3) := fr_uI f3
  have f5 : zFr (zuI (zuI (zuI (zuI (zuI μ 90 0 x0) 90 1 (μ.2.1 78 w)) 90 2 x2) 90 3 x3) 90 4 (μ.2.1 75 q)) := fr_uI f4
  have f6 : zFr (zw6 μ 90 x0 (μ.2.1 78 w) x2 x3 (μ.2.1 75 q) x5) := fr_uI f5
  have s0 : ∀ {u : zS} (hu : zFr u) v, zsI u (some 90) 0 v = some (zuI u 90 0 v) := fun hu v => sI_90 hu (j := 0) (by decide)
  have s1 : ∀ {u : zS} (hu : zFr u) v, zsI u (some 90) 1 v = some (zuI u 90 1 v) := fun hu v => sI_90 hu (j := 1) (by decide)
  have s2 : ∀ {u : zS} (hu : zFr u) v, zsI u (some 90) 2 v = some (zuI u 90 2 v) := fun hu v => sI_90 hu (j := 2) (by decide)
  have s3 : ∀ {u : zS} (hu : zFr u) v, zsI u (some 90) 3 v = some (zuI u 90 3 v) := fun hu v => sI_90 hu (j := 3) (by decide)
  have s4 : ∀ {u : zS} (hu : zFr u) v, zsI u (some 90) 4 v = some (zuI u 90 4 v) := fun hu v => sI_90 hu (j := 4) (by decide)
  have s5 : ∀ {u : zS} (hu : zFr u) v, zsI u (some 90) 5 v = some (zuI u 90 5 v) := fun hu v => sI_90 hu (j := 5) (by decide)
  have g2 := M_yearsOf (yr := yr) f2 hw7 hq6 (by rw [uI_off (by omega), uI_off (by omega)]; exact h10)
  rw [uI_off (by omega), uI_off (by omega), uI_off (by omega), uI_off (by omega), hx2] at g2
  have g5 := M_had f5 hw7 (by rw [uI_off (by omega), uI_off (by omega), uI_off (by omega), uI_off (by omega), uI_off (by omega)]; exact h1) hn6
  have g5' : (fun j => !decide ((zuI (zuI (zuI (zuI (zuI μ 90 0 x0) 90 1 (μ.2.1 78 w)) 90 2 x2) 90 3 x3) 90 4 (μ.2.1 75 q)).2.1 82 (6 * w + j) = 0)) = (fun q => !decide (μ.2.1 82 (6 * w + q) = 0)) := by
    funext j
    rw [uI_off (by omega), uI_off (by omega), uI_off (by omega), uI_off (by omega), uI_off (by omega)]
  rw [g5', hx5] at g5
  have hnm : ∀ k, k < 6 → (zw6 μ 90 x0 (μ.2.1 78 w) x2 x3 (μ.2.1 75 q) x5).2.1 90 k = zNm μ.2.1 w q k := by
    intro k hk
    rw [zw6_at hk]
    unfold zNm
    rw [hyr, hnc, hx0, hx2, hx5]
    have e3 : x3 = μ.2.1 74 q := by
      rw [← hx3]
      rcases hm01 with z | z <;> rw [z] <;> decide
    rw [e3]
  refine ⟨x0, μ.2.1 78 w, x2, x3, μ.2.1 75 q, x5, ?_⟩
  have hr17 : (zw6 μ 90 x0 (μ.2.1 78 w) x2 x3 (μ.2.1 75 q) x5).2.1 73 17 = nI rl := by rw [zw6_off (by omega)]; exact h17
  unfold F_M_says
  rw [gR_73_31 hf, zb_some, gR_73_6 hf, zb_some, aI_77 hf hw7, zb_some, zjn_if, hx0, s0 hf, zb_some, gR_73_31 f1, zb_some, gR_73_7 f1, zb_some, aI_78 f1 hw7, zb_some, uI_off (by omega), s1 f1, zb_some, gR_73_31 f2, zb_some, fo_73 f2, zb_some, g2, zb_some, s2 f2, zb_some, gR_73_31 f3, zb_some, gR_73_2 f3, zb_some, aI_74 f3 hq6, zb_some, uI_off (by omega), uI_off (by omega), uI_off (by omega), zjn_if, hx3, s3 f3, zb_some, gR_73_31 f4, zb_some, gR_73_3 f4, zb_some, aI_75 f4 hq6, zb_some, uI_off (by omega), uI_off (by omega), uI_off (by omega), uI_off (by omega), s4 f4, zb_some, gR_73_31 f5, zb_some, fo_73 f5, zb_some, g5, zb_some, s5 f5, zb_some]
  rw [show zuI (zuI (zuI (zuI (zuI (zuI μ 90 0 x0) 90 1 (μ.2.1 78 w)) 90 2 x2) 90 3 x3) 90 4 (μ.2.1 75 q)) 90 5 x5 = zw6 μ 90 x0 (μ.2.1 78 w) x2 x3 (μ.2.1 75 q) x5 from rfl]
  have h3 : ((3 : Int32) * nI rl) + nI part = nI (3 * rl + part) := by
    rw [show (3 : Int32) = nI 3 from rfl, pk_mul, nI_add]
  rw [gR_73_19 f6, zb_some, gI_73 f6, zb_some, hr17, h3, aI_86 f6 (by omega), zb_some, zw6_off (by omega), hf0]
  generalize hu : zw6 μ 90 x0 (μ.2.1 78 w) x2 x3 (μ.2.1 75 q) x5 = u at *
  have uo : ∀ a k, a ≠ 90 → u.2.1 a k = μ.2.1 a k := by
    intro a k ha
    rw [← hu, zw6_off ha]
  generalize zNm μ.2.1 w q = nm at *
  refine fix3_t m (fun i => zmem nm ac 89 u i) (fun i => nI (zst nm ac i).length) (fun i => nI (f0 + i)) ?_ ?_ (zFU_lt (by omega))
  · intro r i hi
    have gu := zmem_fr (nm := nm) (ac := ac) (A := 89) f6 i
    have go := (zmem_off (nm := nm) (ac := ac) (A := 89) (μ := u) i).2.2
    obtain ⟨d, hd⟩ := zrun_pre m hr i (by omega)
    obtain ⟨d', hd'⟩ := zrun_pre m hr (i + 1) (by omega)
    have hl := zst_len (nm := nm) i d hd
    have hl' := zst_len (nm := nm) (i + 1) d' hd'
    have hd40 : d ≤ 40 := zrun_40 i d hd
    have hrow := zmem_row (nm := nm) (A := 89) (μ := u) i d hd
    have hst : zst nm ac (i + 1) = zpush nm (ac i) (zst nm ac i) := rfl
    have hmm : zmem nm ac 89 u (i + 1) = zuI (zmem nm ac 89 u i) 89 ((zst nm ac (i + 1)).length - 1) ((zst nm ac (i + 1)).headD 0) := rfl
    have hstep := zrun_step hd hd'
    try dsimp only at hrow ⊢
    rw [gR_73_20 gu, zb_some, gI_73 gu, zb_some, go 73 17 (by omega), hr17, h3, aI_87 gu (by omega), zb_some, go 87 _ (by omega), uo 87 _ (by omega), hf1, if_neg (show ¬ nI (f0 + m) ≤ nI (f0 + i) by rw [nI_leI (by omega) (by omega)]; omega), gR_73_18 gu, zb_some, aI_85 gu (by omega), zb_some, go 85 _ (by omega), uo 85 _ (by omega), hac i hi, show nI (f0 + i) + 1 = nI (f0 + (i + 1)) from nI_add (f0 + i) 1, hl, hmm, hl', hst]
    rcases hstep with ⟨q1, q2, q3⟩ | ⟨q1, q2, q3⟩ | ⟨q1, q2, q3⟩
    · have hneg : ¬ ac i ≤ (-100) := by
        have z1 := (fa_le _ _).mp q1.1
        intro z2
        have z3 := (fa_le _ _).mp z2
        rw [show (-6 : Int32).toInt = -6 by decide] at z1
        rw [show (-100 : Int32).toInt = -100 by decide] at z3
        omega
      rw [if_neg hneg, gR_73_30 gu, zb_some, gR_73_31 gu, zb_some, zpush_1 q1, q3, show nI d + 1 = nI (d + 1) from nI_add d 1, Nat.add_sub_cancel]
      rcases Classical.em (ac i < 0) with z | z
      · obtain ⟨k, hk, hke⟩ := zneg q1.1 z
        obtain ⟨e1, e2, e3, e4⟩ := znegs ⟨k, hk⟩
        rw [hke, if_neg e4, if_neg e4, e2, aI_90 gu hk, zb_some, go 90 k (by omega), hnm k hk, sI_89 gu (by omega), zb_some, nI_clamp (by omega)]
        rfl
      · rw [if_pos (Int32.not_lt.mp z), if_pos (Int32.not_lt.mp z), sI_89 gu (by omega), zb_some]
        rfl
    · have htop := zrow_top hrow (by omega)
      rw [hl] at htop
      rcases q1 with q1 | q1
      · rw [q1, if_pos (show (-100 : Int32) ≤ -100 by decide), if_pos rfl, gR_73_30 gu, zb_some, zb_some, nI_sub1 (by omega), aI_89 gu (by omega), zb_some, sI_89 gu (by omega), zb_some, zpush_2, q3, htop]
        rfl
      · rw [q1, if_pos (show (-101 : Int32) ≤ -100 by decide), if_neg (show ¬ (-101 : Int32) = -100 by decide), if_pos rfl, gR_73_30 gu, zb_some, zb_some, nI_sub1 (by omega), aI_89 gu (by omega), zb_some, sI_89 gu (by omega), sI_89 gu (by omega), zb_some, zb_some, zpush_3, q3, htop]
        by_cases z : (zst nm ac i).headD 0 = 0
        · rw [if_pos z, if_pos z]; rfl
        · rw [if_neg z, if_neg z]; rfl
    · have htop := zrow_top hrow (by omega)
      have htop2 := zrow_top2 hrow (by omega)
      rw [hl] at htop htop2
      have hz : ac i ≤ (-100) ∧ ¬ ac i = (-100) ∧ ¬ ac i = (-101) := by
        rcases q1 with q | q | q | q | q | q | q <;> rw [q] <;> decide
      rw [if_pos hz.1, if_neg hz.2.1, if_neg hz.2.2, gR_73_30 gu, zb_some, zb_some, nI_m1 (by omega), nI_sub1 (by omega), aI_89 gu (by omega), zb_some, zb_some, aI_89 gu (by omega), zb_some, M_reck, zb_some, sI_89 gu (by omega), zb_some, zpush_4 q1, q3, htop, htop2, List.headD_cons]
  · intro r
    have gu := zmem_fr (nm := nm) (ac := ac) (A := 89) f6 m
    have go := (zmem_off (nm := nm) (ac := ac) (A := 89) (μ := u) m).2.2
    have hl := zst_len (nm := nm) m 1 hr
    have hrow := zmem_row (nm := nm) (A := 89) (μ := u) m 1 hr
    have htop := zrow_top hrow (by omega)
    rw [hl] at htop
    try dsimp only at htop ⊢
    have a0 : zaI (zmem nm ac 89 u m) .int (some 89) 0 = some ((zmem nm ac 89 u m).2.1 89 0) := aI_89 gu (j := 0) (by decide)
    rw [gR_73_20 gu, zb_some, gI_73 gu, zb_some, go 73 17 (by omega), hr17, h3, aI_87 gu (by omega), zb_some, go 87 _ (by omega), uo 87 _ (by omega), hf1, if_pos (Int32.le_refl _), gR_73_30 gu, zb_some, a0, zb_some]
    rw [← htop]
theorem val_N {w q part : Nat} (h : zSM n p yr rl μ) (hw : w < p) (hq : q < n) (hp : part < 3) : ∃ μ1, F_M_says μ 73 (nI part) (nI w) (nI q) = some (zVal μ.2.1 rl part w q, μ1) ∧ zNM μ μ1 := by
  obtain ⟨hf, hn6, hp7, hy99, h1, h4, h10, h74, h75, hpe, htb, hrl, h17, htx⟩ := id h
  obtain ⟨t2, t3, g4, g7⟩ := htx part hp
  obtain ⟨x0, x1, x2, x3, x4, x5, hv⟩ := says_N (ac := zAc μ.2.1 rl part) (f0 := (μ.2.1 86 (3 * rl + part)).toNatClampNeg) (m := zAm μ.2.1 rl part) h hw hq hp t2.2
    (by rw [show (μ.2.1 86 (3 * rl + part)).toNatClampNeg + zAm μ.2.1 rl part = (μ.2.1 87 (3 * rl + part)).toNatClampNeg by unfold zAm; omega]; exact t3.2)
    (by have := t3.1; unfold zAm; omega) (fun j _ => rfl) g7
  refine ⟨_, hv, zmem_fr (fr_uI (fr_uI (fr_uI (fr_uI (fr_uI (fr_uI hf)))))) _, ?_, ?_, ?_⟩
  · rw [(zmem_off _).1]; rfl
  · rw [(zmem_off _).2.1]; rfl
  · intro a k ha hb
    rw [(zmem_off _).2.2 a k ha, zw6_off hb]
theorem well_N {w q : Nat} (h : zSM n p yr rl μ) (hw : w < p) (hq : q < n) : ∃ μ1, F_M_wellOf μ 73 (nI w) (nI q) = some (nI (zWell μ.2.1 rl w q), μ1) ∧ zNM μ μ1 := by
  obtain ⟨μ1, h1, h2⟩ := val_N h hw hq (part := 0) (by decide)
  refine ⟨μ1, ?_, h2⟩
  unfold F_M_wellOf
  rw [fo_73 h.1, zb_some, show (0 : Int32) = nI 0 from rfl, h1, zk_some, M_hld, zb_some]
  rw [← (zWell_e μ.2.1 rl w q).1]; rfl
theorem cost_N {w q : Nat} (h : zSM n p yr rl μ) (hw : w < p) (hq : q < n) : ∃ μ1, F_M_costOf μ 73 (nI w) (nI q) = some (nI (zCost μ.2.1 rl w q), μ1) ∧ zNM μ μ1 := by
  obtain ⟨μ1, h1, h2⟩ := val_N h hw hq (part := 1) (by decide)
  refine ⟨μ1, ?_, h2⟩
  unfold F_M_costOf
  rw [fo_73 h.1, zb_some, show (1 : Int32) = nI 1 from rfl, h1, zk_some, M_hld, zb_some]
  rw [← (zCost_e μ.2.1 rl w q).1]; rfl
theorem fc_N (h : zSM n p yr rl μ) : ∃ u, F_M_findCan μ 73 = some u ∧ yNs (fun a _ => a = 91) μ u ∧ ∀ w, w < p → u.2.1 91 w = nI (ymk (zCan μ.2.1 w) n) := by
  have hn6 := h.2.1
  have hp7 := h.2.2.1
  have hst : ∀ {u}, yNs (fun a _ => a = 91) μ u → zSM n p yr rl u ∧ zCan u.2.1 = zCan μ.2.1 := by
    intro u hu
    refine ⟨zSM_c h (yNs_dt hu (fun a k x => by omega)) hu.1, ?_⟩
    funext w q
    exact zCan_c (yNs_dt hu (fun a k x => by omega)) w q
  unfold F_M_findCan
  refine fix2_p p (fun i u x => yNs (fun a _ => a = 91) μ u ∧ x = nI i ∧ ∀ w, w < i → u.2.1 91 w = nI (ymk (zCan μ.2.1 w) n)) (fun o => ∃ u, o = some u ∧ yNs (fun a _ => a = 91) μ u ∧ ∀ w, w < p → u.2.1 91 w = nI (ymk (zCan μ.2.1 w) n)) ?_ ?_ (zFU_lt (by omega)) ⟨yNs_rf h.1, rfl, fun w hw => absurd hw (Nat.not_lt_zero w)⟩
  · rintro r i u x hi ⟨hu, rfl, hw⟩
    obtain ⟨h1, hc1⟩ := hst hu
    have hu2 : yNs (fun a _ => a = 91) μ (zuI u 91 i 0) := yNs_w hu rfl
    rw [gI_73 h1.1, zb_some, h1.2.2.2.2.2.1, if_neg (show ¬ nI p ≤ nI i by rw [nI_leI (by omega) (by omega)]; omega), gR_73_32 h1.1, zb_some, sI_91 h1.1 (by omega), zb_some]
    left
    refine fix2_p n (fun j u x => yNs (fun a _ => a = 91) μ u ∧ x = nI j ∧ (∀ w, w < i → u.2.1 91 w = nI (ymk (zCan μ.2.1 w) n)) ∧ u.2.1 91 i = nI (ymk (zCan μ.2.1 i) j)) (fun o => ∃ y0 y1, (yNs (fun a _ => a = 91) μ y0 ∧ y1 = nI (i + 1) ∧ ∀ w, w < i + 1 → y0.2.1 91 w = nI (ymk (zCan μ.2.1 w) n)) ∧ o = r y0 y1) ?_ ?_ (zFU_lt (by omega)) ⟨hu2, rfl, fun w hw2 => by rw [uI_at, if_neg (by omega)]; exact hw w hw2, by rw [uI_at, if_pos ⟨rfl, rfl⟩]; rfl⟩
    · rintro r2 j v y hj ⟨hv, rfl, hv1, hv2⟩
      obtain ⟨h2, hc2⟩ := hst hv
      have hcan := can_N h2 hi hj
      rw [hc2] at hcan
      left
      refine ⟨zuI v 91 i (nI (ymk (zCan μ.2.1 i) (j + 1))), nI (j + 1), ⟨yNs_w hv rfl, rfl, fun w hw2 => by rw [uI_at, if_neg (by omega)]; exact hv1 w hw2, by rw [uI_at, if_pos ⟨rfl, rfl⟩]⟩, ?_⟩
      rw [gI_73 h2.1, zb_some, h2.2.2.2.2.1, if_neg (show ¬ nI n ≤ nI j by rw [nI_leI (by omega) (by omega)]; omega), gR_73_32 h2.1, zb_some, aI_91 h2.1 (by omega), zb_some, fo_73 h2.1, zb_some, hcan, zb_some, hv2, show nI j + 1 = nI (j + 1) from nI_add j 1]
      have e1 : ymk (zCan μ.2.1 i) (j + 1) = if zCan μ.2.1 i j = true then ymk (zCan μ.2.1 i) j ||| 2 ^ j else ymk (zCan μ.2.1 i) j := rfl
      cases hcc : zCan μ.2.1 i j
      · rw [hcc, if_neg (show ¬ false = true by decide)] at e1
        rw [if_pos (show b2 false = 0 from rfl), show nI (ymk (zCan μ.2.1 i) j) ||| 0 = nI (ymk (zCan μ.2.1 i) j ||| 0) from nI_or _ 0, Nat.or_zero, sI_91 h2.1 (by omega), zb_some, e1]
      · rw [hcc, if_pos rfl] at e1
        rw [if_neg (show ¬ b2 true = 0 by decide), n_shl1 (by omega), nI_or, sI_91 h2.1 (by omega), zb_some, e1]
    · rintro r2 v y ⟨hv, rfl, hv1, hv2⟩
      obtain ⟨h2, hc2⟩ := hst hv
      refine ⟨v, nI (i + 1), ⟨hv, rfl, fun w hw2 => ?_⟩, ?_⟩
      · by_cases hwi : w = i
        · subst hwi; exact hv2
        · exact hv1 w (by omega)
      · rw [gI_73 h2.1, zb_some, h2.2.2.2.2.1, if_pos (Int32.le_refl _), show nI i + 1 = nI (i + 1) from nI_add i 1]
  · rintro r u x ⟨hu, rfl, hw⟩
    obtain ⟨h1, hc1⟩ := hst hu
    refine ⟨u, ?_, hu, hw⟩
    rw [gI_73 h1.1, zb_some, h1.2.2.2.2.2.1, if_pos (Int32.le_refl _)]
theorem fg_N (h : zSM n p yr rl μ) : ∃ u, F_M_findComes μ 73 = some u ∧ yNs (fun a _ => a = 89 ∨ a = 90 ∨ a = 92) μ u ∧ yFg (yG μ.2.1 rl) n p u.2.1 := by
  have hn6 := h.2.1
  have hp7 := h.2.2.1
  have hst : ∀ {u}, yNs (fun a _ => a = 89 ∨ a = 90 ∨ a = 92) μ u → zSM n p yr rl u ∧ zDt μ.2.1 u.2.1 := by
    intro u hu
    exact ⟨zSM_c h (yNs_dt hu (fun a k x => by omega)) hu.1, yNs_dt hu (fun a k x => by omega)⟩
  unfold F_M_findComes
  refine fix2_p p (fun i u x => yNs (fun a _ => a = 89 ∨ a = 90 ∨ a = 92) μ u ∧ x = nI i ∧ ∀ w, w < i → ∀ q, q < n → u.2.1 92 (6 * w + q) = nI (yG μ.2.1 rl w q)) (fun o => ∃ u, o = some u ∧ yNs (fun a _ => a = 89 ∨ a = 90 ∨ a = 92) μ u ∧ yFg (yG μ.2.1 rl) n p u.2.1) ?_ ?_ (zFU_lt (by omega)) ⟨yNs_rf h.1, rfl, fun w hw => absurd hw (Nat.not_lt_zero w)⟩
  · rintro r i u x hi ⟨hu, rfl, hw⟩
    obtain ⟨h1, hc1⟩ := hst hu
    rw [gI_73 h1.1, zb_some, h1.2.2.2.2.2.1, if_neg (show ¬ nI p ≤ nI i by rw [nI_leI (by omega) (by omega)]; omega)]
    left
    refine fix2_p n (fun j u x => yNs (fun a _ => a = 89 ∨ a = 90 ∨ a = 92) μ u ∧ x = nI j ∧ (∀ w, w < i → ∀ q, q < n → u.2.1 92 (6 * w + q) = nI (yG μ.2.1 rl w q)) ∧ ∀ q, q < j → u.2.1 92 (6 * i + q) = nI (yG μ.2.1 rl i q)) (fun o => ∃ y0 y1, (yNs (fun a _ => a = 89 ∨ a = 90 ∨ a = 92) μ y0 ∧ y1 = nI (i + 1) ∧ ∀ w, w < i + 1 → ∀ q, q < n → y0.2.1 92 (6 * w + q) = nI (yG μ.2.1 rl w q)) ∧ o = r y0 y1) ?_ ?_ (zFU_lt (by omega)) ⟨hu, rfl, hw, fun q hq => absurd hq (Nat.not_lt_zero q)⟩
    · rintro r2 j v y hj ⟨hv, rfl, hv1, hv2⟩
      obtain ⟨h2, hc2⟩ := hst hv
      obtain ⟨v2, w1, w2⟩ := well_N h2 hi hj
      have w3 := yNs_tr hv (yNs_mo (Q := fun a _ => a = 89 ∨ a = 90 ∨ a = 92) (yNs_M w2) (fun a k x => by omega))
      obtain ⟨h3, hc3⟩ := hst w3
      have h6 : ((6 : Int32) * nI i) + nI j = nI (6 * i + j) := by rw [show (6 : Int32) = nI 6 from rfl, pk_mul, nI_add]
      have hva := h.2.2.2.2.2.2.2.2.1 j hj
      have hval : v2.2.1 75 j = nI (min (μ.2.1 75 j).toNatClampNeg 99) := by
        rw [hc3 75 j (by omega), Nat.min_eq_left hva.1]
        exact hva.2
      left
      refine ⟨zuI v2 92 (6 * i + j) (nI (yG μ.2.1 rl i j)), nI (j + 1), ⟨yNs_w w3 (Or.inr (Or.inr rfl)), rfl, fun w hw2 q hq => ?_, fun q hq => ?_⟩, ?_⟩
      · rw [uI_at, if_neg (by omega), w2.2.2.2 92 _ (by omega) (by omega)]
        exact hv1 w hw2 q hq
      · rw [uI_at]
        by_cases hqj : q = j
        · subst hqj; rw [if_pos ⟨rfl, rfl⟩]
        · rw [if_neg (by omega), w2.2.2.2 92 _ (by omega) (by omega)]
          exact hv2 q (by omega)
      · rw [gI_73 h2.1, zb_some, h2.2.2.2.2.1, if_neg (show ¬ nI n ≤ nI j by rw [nI_leI (by omega) (by omega)]; omega), gR_73_33 h2.1, zb_some, fo_73 h2.1, zb_some, w1, zk_some, gR_73_3 h3.1, zb_some, aI_75 h3.1 (by omega), zb_some, h6, hval, pk_mul, sI_92 h3.1 (by omega), zb_some, show nI j + 1 = nI (j + 1) from nI_add j 1]
        unfold yG zWell
        rw [zVal_c hc2]
    · rintro r2 v y ⟨hv, rfl, hv1, hv2⟩
      obtain ⟨h2, hc2⟩ := hst hv
      refine ⟨v, nI (i + 1), ⟨hv, rfl, fun w hw2 => ?_⟩, ?_⟩
      · by_cases hwi : w = i
        · subst hwi; exact hv2
        · exact hv1 w (by omega)
      · rw [gI_73 h2.1, zb_some, h2.2.2.2.2.1, if_pos (Int32.le_refl _), show nI i + 1 = nI (i + 1) from nI_add i 1]
  · rintro r u x ⟨hu, rfl, hw⟩
    obtain ⟨h1, hc1⟩ := hst hu
    refine ⟨u, ?_, hu, hw⟩
    rw [gI_73 h1.1, zb_some, h1.2.2.2.2.2.1, if_pos (Int32.le_refl _)]
theorem yFm_N (h : zSM n p yr rl μ) {u : zS} (hd : zDt μ.2.1 u.2.1) (h91 : ∀ w, w < p → u.2.1 91 w = nI (ymk (zCan μ.2.1 w) n)) : yFm (zCan μ.2.1) (yMu μ.2.1) n p u.2.1 := by
  obtain ⟨hf, hn6, hp7, hy99, h1, h4, h10, h74, h75, hpe, htb, hrl, h17, htx⟩ := id h
  refine ⟨hn6, hp7, (hd 73 1 (by omega)).trans h1, (hd 73 4 (by omega)).trans h4, fun q hq => ?_, fun w hw => ⟨_, Nat.lt_of_lt_of_le ymk_lt (p2_6 hn6), h91 w hw, fun q hq => ?_⟩⟩
  · rw [hd 74 q (by omega)]
    exact b2_dec (h74 q (by omega))
  · rw [ymk_tb, decide_eq_true hq, Bool.true_and]
theorem plan_N {U : Nat} (h : zSM n p yr rl μ) (hU : U < 2 ^ p) : ∃ u1 u2 u3, F_M_findCan μ 73 = some u1 ∧ zFr u1 ∧ F_M_findComes u1 73 = some u2 ∧ zFr u2 ∧ F_M_findBest u2 73 (nI U) = some (b2 (decide (0 ≤ yD (zCan μ.2.1) (yG μ.2.1 rl) n p (yMu μ.2.1) n (fun w => !U.testBit w))), u3) ∧ yNs yBM μ u3 ∧ (0 ≤ yD (zCan μ.2.1) (yG μ.2.1 rl) n p (yMu μ.2.1) n (fun w => !U.testBit w) → u3.2.1 73 36 = yI (yD (zCan μ.2.1) (yG μ.2.1 rl) n p (yMu μ.2.1) n (fun w => !U.testBit w)) ∧ ∀ j, j < n → u3.2.1 94 j = yL (zCan μ.2.1) (yG μ.2.1 rl) n p (yMu μ.2.1) n (fun w => !U.testBit w) j) := by
  obtain ⟨u1, a1, a2, a3⟩ := fc_N h
  have hd1 : zDt μ.2.1 u1.2.1 := yNs_dt a2 (fun a k x => by omega)
  have h1 := zSM_c h hd1 a2.1
  obtain ⟨u2, b1, b2, b3⟩ := fg_N h1
  rw [yG_f hd1] at b3
  have hd2 : zDt μ.2.1 u2.2.1 := fun a k z => by rw [b2.2.2.2 a k (by omega), hd1 a k z]
  have hm := yFm_N h hd2 (fun w hw => by rw [b2.2.2.2 91 w (by omega)]; exact a3 w hw)
  obtain ⟨u3, c1, c2, c3⟩ := M_fb (yG_le μ.2.1 rl) b2.1 hm b3 hU
  refine ⟨u1, u2, u3, a1, a2.1, b1, b2.1, c1, ?_, c3⟩
  exact yNs_tr (yNs_tr (yNs_mo a2 (fun a k z => by unfold yBM; omega)) (yNs_mo b2 (fun a k z => by unfold yBM; omega))) (yNs_mo c2 (fun a k z => by unfold yBM; omega))
end S
