-- ===== copy =====
section S
variable {n p yr tx rl tp c : Nat} {μ : zS}
/-- a run of l from f is within z -/
def zrn (z : Nat) (f l : Int32) : Prop := ∃ f' l', f' + l' ≤ z ∧ f = nI f' ∧ l = nI l'
theorem zrn_iff {z : Nat} (hz : z ≤ 40) {f l : Int32} : zrn z f l ↔ (¬ f < 0 ∧ ¬ l < 0 ∧ ¬ (nI z - l) < f) := by
  constructor
  · rintro ⟨f', l', h, rfl, rfl⟩
    refine ⟨Int32.not_lt.mpr (nI_nn (by omega)), Int32.not_lt.mpr (nI_nn (by omega)), ?_⟩
    rw [pk_sub (show l' ≤ z by omega), nI_ltI (by omega) (by omega)]
    omega
  · rintro ⟨h1, h2, h3⟩
    obtain ⟨f', hf', rfl⟩ := nI_of h1
    obtain ⟨l', hl', rfl⟩ := nI_of h2
    refine ⟨f', l', ?_, rfl, rfl⟩
    by_cases hlz : l' ≤ z
    · rw [pk_sub hlz, nI_ltI (by omega) (by omega)] at h3
      omega
    · exfalso
      apply h3
      rw [fa_lt, Int32.toInt_sub, nI_toInt (show z < 2 ^ 31 by omega), nI_toInt hf', nI_toInt hl', Int.bmod_def]
      split <;> omega
theorem X_hasRun {d z : Nat} {f l : Int32} (hf : zFr μ) (hd : d < 4) (hz : μ.2.1 (63 + 2 * d) 1 = nI z) (hz4 : z ≤ 40) : (zrn z f l → F_Sheet_hasRun μ (63 + 2 * d) f l = some 1) ∧ (¬ zrn z f l → F_Sheet_hasRun μ (63 + 2 * d) f l = some 0) := by
  unfold F_Sheet_hasRun
  constructor
  · intro h
    have h0 := (zrn_iff hz4).mp h
    obtain ⟨f', l', h1, rfl, rfl⟩ := h
    rw [if_neg h0.1, if_neg h0.2.1, gI_S hf hd, zb_some, hz, if_neg (show ¬ nI z < nI l' by rw [nI_ltI (by omega) (by omega)]; omega), zb_some, if_neg h0.2.2]
  · intro h
    by_cases h1 : f < 0
    · rw [if_pos h1]
    rw [if_neg h1]
    by_cases h2 : l < 0
    · rw [if_pos h2]
    rw [if_neg h2, gI_S hf hd, zb_some, hz]
    by_cases h3 : nI z < l
    · rw [if_pos h3]
    rw [if_neg h3, zb_some, if_pos]
    exact Classical.byContradiction fun q => h ((zrn_iff hz4).mpr ⟨h1, h2, q⟩)
theorem M_copy_loops {d1 f1 d2 f2 l : Nat} (hf : zFr μ) (h1 : d1 < 4) (h2 : d2 < 4) (hl1 : f1 + l ≤ 40) (hl2 : f2 + l ≤ 40) : (zfix2 (fun (r15 : zS → Int32 → Option (Int32 × zS)) (u16 : zS) (x17 : Int32) => if nI l ≤ x17 then (zfix2 (fun (r18 : zS → Int32 → Option (Int32 × zS)) (u19 : zS) (x20 : Int32) => if nI l ≤ x20 then (some (nI l, u19)) else ((zgR u19 9 (some 73) 51).bind fun v21 => (zgR u19 9 (some 73) 52).bind fun v22 => (zaI u19 .int v22 x20).bind fun v23 => (zsI u19 v21 ((((40 : Int32) * nI d2) + nI f2) + x20) v23).bind fun u24 => r18 u24 (x20 + 1))) zFU u16 0) else ((zgR u16 9 (some 73) 52).bind fun v25 => (zgR u16 9 (some 73) 51).bind fun v26 => (zaI u16 .int v26 ((((40 : Int32) * nI d1) + nI f1) + x17)).bind fun v27 => (zsI u16 v25 x17 v27).bind fun u28 => r15 u28 (x17 + 1))) zFU μ 0) = some (nI l, zfg 101 (40 * d2 + f2) (fun i => μ.2.1 101 (40 * d1 + f1 + i)) (zfg 102 0 (fun i => μ.2.1 101 (40 * d1 + f1 + i)) μ l) l) := by
  simp only [show (40 : Int32) = nI 40 from rfl, pk_mul, nI_add]
  generalize hg : (fun i => μ.2.1 101 (40 * d1 + f1 + i)) = g
  refine fix2_t l (fun i => zfg 102 0 g μ i) (fun i => nI i) ?_ ?_ (zFU_lt (by omega))
  · intro r i hi
    have hfi := zfg_fr (A := 102) (b := 0) (f := g) hf i
    have hv : (zfg 102 0 g μ i).2.1 101 (40 * d1 + f1 + i) = g i := by rw [zfg_at, if_neg (by omega), ← hg]
    rw [if_neg (show ¬ nI l ≤ nI i by rw [nI_leI (by omega) (by omega)]; omega), gR_73_52 hfi, zb_some, gR_73_51 hfi, zb_some, nI_add, aI_101 hfi (by omega), zb_some, sI_102 hfi (by omega), zb_some, hv, show nI i + 1 = nI (i + 1) from nI_add i 1]
    show r (zuI _ _ i _) _ = r (zuI _ _ (0 + i) _) _
    rw [Nat.zero_add]
  · intro r
    rw [if_pos (Int32.le_refl _)]
    generalize hμ1 : zfg 102 0 g μ l = μ1
    have hf1 : zFr μ1 := by rw [← hμ1]; exact zfg_fr hf l
    refine fix2_t l (fun i => zfg 101 (40 * d2 + f2) g μ1 i) (fun i => nI i) ?_ ?_ (zFU_lt (by omega))
    · intro r i hi
      have hfi := zfg_fr (A := 101) (b := 40 * d2 + f2) (f := g) hf1 i
      have hv : (zfg 101 (40 * d2 + f2) g μ1 i).2.1 102 i = g i := by rw [zfg_at, if_neg (by omega), ← hμ1, zfg_at, if_pos (by omega), Nat.sub_zero]
      rw [if_neg (show ¬ nI l ≤ nI i by rw [nI_leI (by omega) (by omega)]; omega), gR_73_51 hfi, zb_some, gR_73_52 hfi, zb_some, aI_102 hfi (by omega), zb_some, nI_add, sI_101 hfi (by omega), zb_some, hv, show nI i + 1 = nI (i + 1) from nI_add i 1]
      rfl
    · intro r
      rw [if_pos (Int32.le_refl _)]
theorem K_copy (h : zSt n p yr tx rl tp c μ) (a b a2 b2 l : Int32) : zOk c (fun u => F_X_copy u 0 a b a2 b2 l) (fun u => F_M_copy u 73 a b a2 b2 l) μ := by
  obtain ⟨hf, hP, hPe, hAs, hTa, hBa, hYr, hTp, hTx, hIm, hSh, hLt⟩ := id h
  have n1 : ¬ nI 1 = 0 := by decide
  rcases zcase a (n := 4) (by decide) with ⟨d1, hd1, rfl⟩ | ha
  · have ed1 := zc_lt hd1 (show 4 < 2 ^ 31 by decide)
    rcases zcase a2 (n := 4) (by decide) with ⟨d2, hd2, rfl⟩ | ha2
    · have ed2 := zc_lt hd2 (show 4 < 2 ^ 31 by decide)
      obtain ⟨s1, s2, s3, s4, s5⟩ := hSh d1 hd1
      obtain ⟨t1, t2, t3, t4, t5⟩ := hSh d2 hd2
      obtain ⟨z1, hz1, hze1, -⟩ := zRg_ex s4
      obtain ⟨z2, hz2, hze2, -⟩ := zRg_ex t4
      have pos : ∀ {x : Int32}, (x = (-1) ∨ x = 0 ∨ x = 1 ∨ x = 2) → ¬ x = (-1) → ¬ x < 0 := by
        intro x hx hn
        rcases hx with q | q | q | q
        · exact absurd q hn
        · rw [q]; decide
        · rw [q]; decide
        · rw [q]; decide
      have e0 : (0 : Int32) = 0 := rfl
      have e10 : ¬ (1 : Int32) = 0 := by decide
      by_cases m1 : μ.2.1 99 d1 = (-1)
      · refine zOk_same (v := -11) h ?_ ?_
        · unfold F_X_copy F_Sheet_isMissing
          simp only [X_isSheet, if_pos ed1, if_pos ed2, if_neg n1, zb_some, gR_0_11 hf, aR_17 hf hd1, aR_17 hf hd2, fo_S hf hd1, fo_S hf hd2, gI_S hf hd1, gI_S hf hd2, s1, t1, gR_S_2 hf hd1, gR_S_2 hf hd2, if_neg e10, if_true, if_pos m1]
        · unfold F_M_copy
          simp only [M_isSheet, if_pos ed1, if_pos ed2, if_neg n1, zb_some, gR_73_49 hf, gR_73_50 hf, aI_99 hf hd1, aI_99 hf hd2, aI_100 hf hd1, aI_100 hf hd2, if_pos (show μ.2.1 99 d1 < 0 by rw [m1]; decide)]
      have p1 := pos s2 m1
      by_cases m2 : μ.2.1 99 d2 = (-1)
      · refine zOk_same (v := -11) h ?_ ?_
        · unfold F_X_copy F_Sheet_isMissing
          simp only [X_isSheet, if_pos ed1, if_pos ed2, if_neg n1, zb_some, gR_0_11 hf, aR_17 hf hd1, aR_17 hf hd2, fo_S hf hd1, fo_S hf hd2, gI_S hf hd1, gI_S hf hd2, s1, t1, gR_S_2 hf hd1, gR_S_2 hf hd2, if_neg e10, if_true, if_neg m1, if_pos m2]
        · unfold F_M_copy
          simp only [M_isSheet, if_pos ed1, if_pos ed2, if_neg n1, zb_some, gR_73_49 hf, gR_73_50 hf, aI_99 hf hd1, aI_99 hf hd2, aI_100 hf hd1, aI_100 hf hd2, if_neg p1, if_neg (show ¬ 0 ≤ μ.2.1 99 d2 by rw [m2]; decide)]
      have p2 := Int32.not_lt.mp (pos t2 m2)
      by_cases m3 : μ.2.1 99 d1 = μ.2.1 99 d2
      · have r1 := X_hasRun (f := b) (l := l) hf hd1 (s3.trans hze1) hz1
        have r2 := X_hasRun (f := b2) (l := l) hf hd2 (t3.trans hze2) hz2
        by_cases w1 : zrn z1 b l
        · by_cases w2 : zrn z2 b2 l
          · have i1 := (zrn_iff hz1).mp w1
            have i2 := (zrn_iff hz2).mp w2
            obtain ⟨f1, l1, hl1, rfl, rfl⟩ := w1
            obtain ⟨f2, l2, hl2, rfl, hll⟩ := w2
            have hl12 : l1 = l2 := nI_inj (by omega) (by omega) hll
            subst hl12
            generalize hμ1 : ((μ.1, fun c h => if c = 64 + 2 * d2 then va_cpy (μ.2.1 (64 + 2 * d1)) (μ.2.1 (64 + 2 * d2)) f1 f2 l1 h else μ.2.1 c h, μ.2.2) : zS) = μ1
            have hf1 : zFr μ1 := by rw [← hμ1]; exact hf
            have hc : zcp μ (some (64 + 2 * d1)) (nI f1) (some (64 + 2 * d2)) (nI f2) (nI l1) = some μ1 := by
              simp only [zcp, hf.1, lay_S_2 d1 hd1, lay_S_2 d2 hd2, nI_clamp (show f1 < 2 ^ 31 by omega), nI_clamp (show f2 < 2 ^ 31 by omega), nI_clamp (show l1 < 2 ^ 31 by omega)]
              rw [if_pos ⟨⟨trivial, trivial⟩, i1.1, i2.1, i1.2.1, by omega, by omega⟩, ← hμ1, ← hf.1]
            have ha1 : ∀ a k, μ1.2.1 a k = if a = 64 + 2 * d2 ∧ f2 ≤ k ∧ k < f2 + l1 then μ.2.1 (64 + 2 * d1) (f1 + (k - f2)) else μ.2.1 a k := by
              intro a k
              rw [← hμ1]
              show (if a = 64 + 2 * d2 then va_cpy (μ.2.1 (64 + 2 * d1)) (μ.2.1 (64 + 2 * d2)) f1 f2 l1 k else μ.2.1 a k) = _
              by_cases q : a = 64 + 2 * d2
              · rw [if_pos q]
                unfold va_cpy
                by_cases q2 : f2 ≤ k ∧ k < f2 + l1
                · rw [if_pos q2, if_pos ⟨q, q2⟩]
                · rw [if_neg q2, if_neg (fun x => q2 x.2), q]
              · rw [if_neg q, if_neg (fun x => q x.1)]
            have off1 : ∀ a k, 71 ≤ a → μ1.2.1 a k = μ.2.1 a k := by
              intro a k ha; rw [ha1]; (repeat (first | rw [if_neg (by omega)] | rw [if_pos (by omega)]))
            have hX : F_X_copy μ 0 (nI d1) (nI f1) (nI d2) (nI f2) (nI l1) = some (nI l1, μ1) := by
              unfold F_X_copy F_Sheet_isMissing
              simp only [X_isSheet, if_pos ed1, if_pos ed2, if_neg n1, zb_some, gR_0_11 hf, aR_17 hf hd1, aR_17 hf hd2, fo_S hf hd1, fo_S hf hd2, gI_S hf hd1, gI_S hf hd2, s1, t1, gR_S_2 hf hd1, gR_S_2 hf hd2, if_neg e10, if_true, if_neg m1, if_neg m2, if_pos m3, r1.1 ⟨f1, l1, hl1, rfl, rfl⟩, r2.1 ⟨f2, l1, hl2, rfl, rfl⟩, hc]
            have hM : F_M_copy μ1 73 (nI d1) (nI f1) (nI d2) (nI f2) (nI l1) = some (nI l1, zfg 101 (40 * d2 + f2) (fun i => μ1.2.1 101 (40 * d1 + f1 + i)) (zfg 102 0 (fun i => μ1.2.1 101 (40 * d1 + f1 + i)) μ1 l1) l1) := by
              rw [← M_copy_loops hf1 hd1 hd2 (show f1 + l1 ≤ 40 by omega) (show f2 + l1 ≤ 40 by omega)]
              unfold F_M_copy
              simp only [M_isSheet, if_pos ed1, if_pos ed2, if_neg n1, zb_some, gR_73_49 hf1, gR_73_50 hf1, aI_99 hf1 hd1, aI_99 hf1 hd2, aI_100 hf1 hd1, aI_100 hf1 hd2, off1 99 d1 (by decide), off1 99 d2 (by decide), off1 100 d1 (by decide), off1 100 d2 (by decide), if_neg p1, if_pos p2, if_pos m3, if_neg i1.1, if_neg i1.2.1, if_neg i2.1, hze1, hze2, if_neg i1.2.2, if_pos (Int32.not_lt.mp i2.2.2)]
            refine ⟨_, _, _, hX, hf1, hM, zSx_sh h (zfg_fr (zfg_fr hf1 l1) l1) ?_ ?_⟩
            · intro a k q1 q2
              rw [zfg_at, if_neg (by omega), zfg_at, if_neg (by omega), ha1, if_neg (by omega)]
            · intro d hd
              have hs := hSh d hd
              generalize hμ2 : (zfg 101 (40 * d2 + f2) (fun i => μ1.2.1 101 (40 * d1 + f1 + i)) (zfg 102 0 (fun i => μ1.2.1 101 (40 * d1 + f1 + i)) μ1 l1) l1) = μ2
              have hat : ∀ a k, μ2.2.1 a k = if a = 101 ∧ 40 * d2 + f2 ≤ k ∧ k < 40 * d2 + f2 + l1 then μ1.2.1 101 (40 * d1 + f1 + (k - (40 * d2 + f2))) else if a = 102 ∧ 0 ≤ k ∧ k < 0 + l1 then μ1.2.1 101 (40 * d1 + f1 + (k - 0)) else μ1.2.1 a k := by
                intro a k; rw [← hμ2, zfg_at, zfg_at]
              have e1 : μ2.2.1 (63 + 2 * d) 0 = μ.2.1 (63 + 2 * d) 0 := by rw [hat]; (repeat (first | rw [if_neg (by omega)] | rw [if_pos (by omega)])); rw [ha1]; (repeat (first | rw [if_neg (by omega)] | rw [if_pos (by omega)]))
              have e2 : μ2.2.1 99 d = μ.2.1 99 d := by rw [hat]; (repeat (first | rw [if_neg (by omega)] | rw [if_pos (by omega)])); rw [ha1]; (repeat (first | rw [if_neg (by omega)] | rw [if_pos (by omega)]))
              have e3 : μ2.2.1 (63 + 2 * d) 1 = μ.2.1 (63 + 2 * d) 1 := by rw [hat]; (repeat (first | rw [if_neg (by omega)] | rw [if_pos (by omega)])); rw [ha1]; (repeat (first | rw [if_neg (by omega)] | rw [if_pos (by omega)]))
              have e4 : μ2.2.1 100 d = μ.2.1 100 d := by rw [hat]; (repeat (first | rw [if_neg (by omega)] | rw [if_pos (by omega)])); rw [ha1]; (repeat (first | rw [if_neg (by omega)] | rw [if_pos (by omega)]))
              rw [e1, e2, e3, e4]
              refine ⟨hs.1, hs.2.1, hs.2.2.1, hs.2.2.2.1, ?_⟩
              intro k hk
              by_cases q : d = d2 ∧ f2 ≤ k ∧ k < f2 + l1
              · obtain ⟨rfl, q1, q2⟩ := q
                have e5 : μ2.2.1 (64 + 2 * d) k = μ.2.1 (64 + 2 * d1) (f1 + (k - f2)) := by rw [hat]; (repeat (first | rw [if_neg (by omega)] | rw [if_pos (by omega)])); rw [ha1]; (repeat (first | rw [if_neg (by omega)] | rw [if_pos (by omega)]))
                have e6 : μ2.2.1 101 (40 * d + k) = μ.2.1 101 (40 * d1 + (f1 + (k - f2))) := by
                  rw [hat, if_pos (by omega), off1 _ _ (by omega), show 40 * d1 + f1 + (40 * d + k - (40 * d + f2)) = 40 * d1 + (f1 + (k - f2)) by omega]
                rw [e5, e6]
                exact s5 _ (by omega)
              · have e5 : μ2.2.1 (64 + 2 * d) k = μ.2.1 (64 + 2 * d) k := by rw [hat]; (repeat (first | rw [if_neg (by omega)] | rw [if_pos (by omega)])); rw [ha1]; (repeat (first | rw [if_neg (by omega)] | rw [if_pos (by omega)]))
                have e6 : μ2.2.1 101 (40 * d + k) = μ.2.1 101 (40 * d + k) := by rw [hat]; (repeat (first | rw [if_neg (by omega)] | rw [if_pos (by omega)])); rw [ha1]; (repeat (first | rw [if_neg (by omega)] | rw [if_pos (by omega)]))
                rw [e5, e6]
                exact hs.2.2.2.2 k hk
          · refine zOk_same (v := -12) h ?_ ?_
            · unfold F_X_copy F_Sheet_isMissing
              simp only [X_isSheet, if_pos ed1, if_pos ed2, if_neg n1, zb_some, gR_0_11 hf, aR_17 hf hd1, aR_17 hf hd2, fo_S hf hd1, fo_S hf hd2, gI_S hf hd1, gI_S hf hd2, s1, t1, gR_S_2 hf hd1, gR_S_2 hf hd2, if_neg e10, if_true, if_neg m1, if_neg m2, if_pos m3, r1.1 w1, r2.2 w2]
            · have i1 := (zrn_iff hz1).mp w1
              unfold F_M_copy
              simp only [M_isSheet, if_pos ed1, if_pos ed2, if_neg n1, zb_some, gR_73_49 hf, gR_73_50 hf, aI_99 hf hd1, aI_99 hf hd2, aI_100 hf hd1, aI_100 hf hd2, if_neg p1, if_pos p2, if_pos m3, if_neg i1.1, if_neg i1.2.1, hze1, hze2, if_neg i1.2.2]
              by_cases q : b2 < 0
              · rw [if_pos q]
              · rw [if_neg q, if_neg (fun q2 => w2 ((zrn_iff hz2).mpr ⟨q, i1.2.1, Int32.not_lt.mpr q2⟩))]
        · refine zOk_same (v := -12) h ?_ ?_
          · unfold F_X_copy F_Sheet_isMissing
            simp only [X_isSheet, if_pos ed1, if_pos ed2, if_neg n1, zb_some, gR_0_11 hf, aR_17 hf hd1, aR_17 hf hd2, fo_S hf hd1, fo_S hf hd2, gI_S hf hd1, gI_S hf hd2, s1, t1, gR_S_2 hf hd1, gR_S_2 hf hd2, if_neg e10, if_true, if_neg m1, if_neg m2, if_pos m3, r1.2 w1]
          · unfold F_M_copy
            simp only [M_isSheet, if_pos ed1, if_pos ed2, if_neg n1, zb_some, gR_73_49 hf, gR_73_50 hf, aI_99 hf hd1, aI_99 hf hd2, aI_100 hf hd1, aI_100 hf hd2, if_neg p1, if_pos p2, if_pos m3, hze1, hze2]
            by_cases q1 : l < 0
            · rw [if_pos q1]
            rw [if_neg q1]
            by_cases q2 : b < 0
            · rw [if_pos q2]
            rw [if_neg q2]
            by_cases q3 : b2 < 0
            · rw [if_pos q3]
            rw [if_neg q3, if_pos (Classical.byContradiction fun q => w1 ((zrn_iff hz1).mpr ⟨q2, q1, q⟩))]
      · refine zOk_same (v := -13) h ?_ ?_
        · unfold F_X_copy F_Sheet_isMissing
          simp only [X_isSheet, if_pos ed1, if_pos ed2, if_neg n1, zb_some, gR_0_11 hf, aR_17 hf hd1, aR_17 hf hd2, fo_S hf hd1, fo_S hf hd2, gI_S hf hd1, gI_S hf hd2, s1, t1, gR_S_2 hf hd1, gR_S_2 hf hd2, if_neg e10, if_true, if_neg m1, if_neg m2, if_neg m3]
        · unfold F_M_copy
          simp only [M_isSheet, if_pos ed1, if_pos ed2, if_neg n1, zb_some, gR_73_49 hf, gR_73_50 hf, aI_99 hf hd1, aI_99 hf hd2, aI_100 hf hd1, aI_100 hf hd2, if_neg p1, if_pos p2, if_neg m3]
    · refine zOk_same (v := -2) h ?_ ?_
      · unfold F_X_copy
        rw [X_isSheet, if_pos ed1, zb_some, if_neg n1, X_isSheet, if_neg ha2]; rfl
      · unfold F_M_copy
        rw [M_isSheet, if_pos ed1, zb_some, if_neg n1, M_isSheet, if_neg ha2]; rfl
  · refine zOk_same (v := -2) h ?_ ?_
    · unfold F_X_copy
      rw [X_isSheet, if_neg ha]; rfl
    · unfold F_M_copy
      rw [M_isSheet, if_neg ha]; rfl
end S
