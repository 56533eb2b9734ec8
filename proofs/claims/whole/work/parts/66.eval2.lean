-- ===== what a text comes to: the two evaluators =====
theorem nI_m1 {d : Nat} (h : 0 < d) : nI d + (-1) = nI (d - 1) := by
  rw [← nI_sub1 h, Int32.sub_eq_add_neg]
theorem uI_off {μ : zS} {A j a k : Nat} {v : Int32} (h : a ≠ A) : (zuI μ A j v).2.1 a k = μ.2.1 a k := by
  rw [uI_at, if_neg (fun q => h q.1)]
theorem ztr_p {a : Int32} (h : (-6) ≤ a ∧ a ≤ 9999) : ¬ (20000 : Int32) ≤ ztr a := by
  have h1 := (fa_le _ _).mp h.1
  have h2 := (fa_le _ _).mp h.2
  have e6 : (-6 : Int32).toInt = -6 := by decide
  have e9 : (9999 : Int32).toInt = 9999 := by decide
  have e20 : (20000 : Int32).toInt = 20000 := by decide
  have e99 : (-99 : Int32).toInt = -99 := by decide
  have e0 : (0 : Int32).toInt = 0 := by decide
  unfold ztr
  rw [if_neg (by rw [fa_lt]; omega)]
  by_cases q : a < 0
  · rw [if_pos q, fa_le, Int32.toInt_sub, e9, e20]
    rw [fa_lt] at q
    rw [Int.bmod_def]
    split <;> omega
  · rw [if_neg q, fa_le]
    omega
section S
variable {μ : zS} {nm ac : Nat → Int32}
theorem zln_5 (hf : zFr μ) : zln μ .int (some 5) = some (nI 6) := by
  unfold zln
  rw [hf.1]
  rfl
/-- a number from -6 to -1 -/
theorem zneg {a : Int32} (h : (-6) ≤ a) (h0 : a < 0) : ∃ k, k < 6 ∧ a = (-1 : Int32) - nI k := by
  have h1 := (fa_le _ _).mp h
  have h2 := (fa_lt _ _).mp h0
  have e6 : (-6 : Int32).toInt = -6 := by decide
  have e0 : (0 : Int32).toInt = 0 := by decide
  refine ⟨(-1 - a.toInt).toNat, by omega, ?_⟩
  apply Int32.toInt_inj.mp
  rw [Int32.toInt_sub, nI_toInt (by omega), show (-1 : Int32).toInt = -1 by decide, Int.bmod_def]
  split <;> omega
theorem znegs : ∀ k : Fin 6, ztr ((-1 : Int32) - nI k.1) = nI (10000 + k.1) ∧ (-1 : Int32) - ((-1 : Int32) - nI k.1) = nI k.1 ∧ (nI (10000 + k.1) - 10000) = nI k.1 ∧ ¬ (0 : Int32) ≤ (-1 : Int32) - nI k.1 := by decide +kernel
theorem X_pushed {a : Int32} (hf : zFr μ) (h : (-6) ≤ a ∧ a ≤ 9999) (hn : ∀ k, k < 6 → μ.2.1 5 k = nm k) : F_Text_pushed μ (ztr a) (some 5) = some (if 0 ≤ a then a else nm ((-1 : Int32) - a).toNatClampNeg) := by
  unfold F_Text_pushed
  rcases Classical.em (a < 0) with q | q
  · obtain ⟨k, hk, rfl⟩ := zneg h.1 q
    obtain ⟨e1, e2, e3, e4⟩ := znegs ⟨k, hk⟩
    rw [if_neg e4, e2, e1, e3, nI_clamp (by omega), if_neg (nI_lt0 (by omega)), zln_5 hf, zb_some, if_neg (show ¬ nI 6 ≤ nI k by rw [nI_leI (by omega) (by omega)]; omega), aI_5 hf hk, zb_some, hn k hk]
  · have h2 := (fa_le _ _).mp h.2
    have e9 : (9999 : Int32).toInt = 9999 := by decide
    have e0 : (0 : Int32).toInt = 0 := by decide
    have h3 : ¬ a.toInt < 0 := fun z => q ((fa_lt _ _).mpr (by rw [e0]; exact z))
    have et : ztr a = a := by
      unfold ztr
      rw [if_neg (by rw [fa_lt, show (-99 : Int32).toInt = -99 by decide]; omega), if_neg q]
    rw [et, if_pos, if_pos (Int32.not_lt.mp q)]
    rw [fa_lt, Int32.toInt_sub, show (10000 : Int32).toInt = 10000 by decide, e0, Int.bmod_def]
    split <;> omega
theorem X_text {t part s0 s1 m : Nat} (hf : zFr μ) (ht : t < 6) (hp : part < 3) (hs0 : part = 0 → s0 = 0) (hs0' : part ≠ 0 → μ.2.1 (41 + 4 * t) (part - 1) = nI s0) (hs1 : μ.2.1 (41 + 4 * t) part = nI s1) (hm : s0 + m = s1) (h160 : s1 ≤ 160) (hac : ∀ j, j < m → μ.2.1 (40 + 4 * t) (s0 + j) = ztr (ac j)) (hr : zrun ((List.range m).map ac) 0 = some 1) (hn : ∀ k, k < 6 → μ.2.1 5 k = nm k) :
    F_Text_valueOf μ (39 + 4 * t) (nI part) (some 5) = some ((zst nm ac m).headD 0, zmem nm ac (42 + 4 * t) μ m) := by
  unfold F_Text_valueOf
  rw [if_neg (nI_lt0 (by omega)), if_pos (show nI part < 3 by rw [show (3 : Int32) = nI 3 from rfl, nI_ltI (by omega) (by omega)]; exact hp), zjn1_eq]
  have hj : ∀ (j2 : Int32 → Option (Int32 × zS)), (if nI part = 0 then j2 0 else (zgR μ 7 (some (39 + 4 * t)) 2).bind fun v98 => (zaI μ .int v98 (nI part - 1)).bind fun v99 => j2 v99) = j2 (nI s0) := by
    intro j2
    by_cases q : part = 0
    · rw [if_pos (by rw [q]; rfl), hs0 q]; rfl
    · rw [if_neg (show ¬ nI part = 0 from fun z => q (nI_inj (by omega) (by decide) z)), gR_T_2 hf ht, zb_some, nI_sub1 (by omega), aI_T_2 hf ht (by omega), zb_some, hs0' q]
  rw [hj]
  refine fix3_t m (fun i => zmem nm ac (42 + 4 * t) μ i) (fun i => nI (zst nm ac i).length) (fun i => nI (s0 + i)) ?_ ?_ (zFU_lt (by omega))
  · intro r i hi
    have gu := zmem_fr (nm := nm) (ac := ac) (A := 42 + 4 * t) hf i
    have go := (zmem_off (nm := nm) (ac := ac) (A := 42 + 4 * t) (μ := μ) i).2.2
    obtain ⟨d, hd⟩ := zrun_pre m hr i (by omega)
    obtain ⟨d', hd'⟩ := zrun_pre m hr (i + 1) (by omega)
    have hl := zst_len (nm := nm) i d hd
    have hl' := zst_len (nm := nm) (i + 1) d' hd'
    have hrow := zmem_row (nm := nm) (A := 42 + 4 * t) (μ := μ) i d hd
    have hst : zst nm ac (i + 1) = zpush nm (ac i) (zst nm ac i) := rfl
    have hmm : zmem nm ac (42 + 4 * t) μ (i + 1) = zuI (zmem nm ac (42 + 4 * t) μ i) (42 + 4 * t) ((zst nm ac (i + 1)).length - 1) ((zst nm ac (i + 1)).headD 0) := rfl
    have hstep := zrun_step hd hd'
    try dsimp only at hrow ⊢
    rw [gR_T_2 gu ht, zb_some, aI_T_2 gu ht hp, zb_some, go _ _ (by omega), hs1, if_neg (show ¬ nI s1 ≤ nI (s0 + i) by rw [nI_leI (by omega) (by omega)]; omega), gR_T_0 gu ht, zb_some, aI_T_0 gu ht (by omega), zb_some, go _ _ (by omega), hac i hi, show nI (s0 + i) + 1 = nI (s0 + (i + 1)) from nI_add (s0 + i) 1, hl, hmm, hl', hst]
    rcases hstep with ⟨q1, q2, q3⟩ | ⟨q1, q2, q3⟩ | ⟨q1, q2, q3⟩
    · rw [if_neg (ztr_p q1), if_neg (show ¬ (40 : Int32) ≤ nI d by rw [show (40 : Int32) = nI 40 from rfl, nI_leI (by omega) (by omega)]; omega), gR_T_3 gu ht, zb_some, X_pushed (nm := nm) gu q1 (fun k hk => (go _ _ (by omega)).trans (hn k hk)), zb_some, sI_T_3 gu ht (by omega), zb_some, zpush_1 q1, q3, show nI d + 1 = nI (d + 1) from nI_add d 1, Nat.add_sub_cancel]
      rfl
    · have hd40 : d ≤ 40 := zrun_40 i d hd
      have x1 : ¬ nI d < 1 := by rw [show (1 : Int32) = nI 1 from rfl, nI_ltI (by omega) (by omega)]; omega
      have hd40 : d ≤ 40 := zrun_40 i d hd
      have htop := zrow_top hrow (by omega)
      rw [hl] at htop
      rcases q1 with q1 | q1
      · rw [q1, show ztr (-100) = 20001 by decide, if_pos (show (20000 : Int32) ≤ 20001 by decide), if_neg (show ¬ (20001 : Int32) = 20000 by decide), if_pos rfl, if_neg x1, gR_T_3 gu ht, zb_some, zb_some, nI_sub1 (by omega), aI_T_3 gu ht (by omega), zb_some, sI_T_3 gu ht (by omega), zb_some, zpush_2, q3, htop]
        rfl
      · rw [q1, show ztr (-101) = 20000 by decide, if_pos (show (20000 : Int32) ≤ 20000 by decide), if_pos rfl, if_neg x1, gR_T_3 gu ht, zb_some, zb_some, nI_sub1 (by omega), aI_T_3 gu ht (by omega), zb_some, sI_T_3 gu ht (by omega), sI_T_3 gu ht (by omega), zb_some, zb_some, zpush_3, q3, htop]
        by_cases z : (zst nm ac i).headD 0 = 0
        · rw [if_pos z, if_pos z]; rfl
        · rw [if_neg z, if_neg z]; rfl
    · have hd40 : d ≤ 40 := zrun_40 i d hd
      have x2 : ¬ nI d < 2 := by rw [show (2 : Int32) = nI 2 from rfl, nI_ltI (by omega) (by omega)]; omega
      have hd40 : d ≤ 40 := zrun_40 i d hd
      have htop := zrow_top hrow (by omega)
      have htop2 := zrow_top2 hrow (by omega)
      rw [hl] at htop htop2
      have hz : (20000 : Int32) ≤ ztr (ac i) ∧ ¬ ztr (ac i) = 20000 ∧ ¬ ztr (ac i) = 20001 ∧ ¬ ztr (ac i) ≤ 20001 := by
        rcases q1 with q | q | q | q | q | q | q <;> rw [q] <;> decide
      rw [if_pos hz.1, if_neg hz.2.1, if_neg hz.2.2.1, if_neg hz.2.2.2, if_neg x2, gR_T_3 gu ht, zb_some, zb_some, nI_m1 (by omega), nI_sub1 (by omega), aI_T_3 gu ht (by omega), zb_some, zb_some, aI_T_3 gu ht (by omega), zb_some, X_join q1, zb_some, sI_T_3 gu ht (by omega), zb_some, zpush_4 q1, q3, htop, htop2, List.headD_cons]
  · intro r
    have gu := zmem_fr (nm := nm) (ac := ac) (A := 42 + 4 * t) hf m
    have go := (zmem_off (nm := nm) (ac := ac) (A := 42 + 4 * t) (μ := μ) m).2.2
    have hl := zst_len (nm := nm) m 1 hr
    have hrow := zmem_row (nm := nm) (A := 42 + 4 * t) (μ := μ) m 1 hr
    have htop := zrow_top hrow (by omega)
    rw [hl] at htop
    try dsimp only at htop ⊢
    have a0 : zaI (zmem nm ac (42 + 4 * t) μ m) .int (some (42 + 4 * t)) 0 = some ((zmem nm ac (42 + 4 * t) μ m).2.1 (42 + 4 * t) 0) := aI_T_3 gu ht (j := 0) (by decide)
    rw [gR_T_2 gu ht, zb_some, aI_T_2 gu ht hp, zb_some, go _ _ (by omega), hs1, hm, if_pos (Int32.le_refl _), gR_T_3 gu ht, zb_some, a0, zb_some]
    rw [← htop]
end S
section S
variable {n p yr tx rl tp c : Nat} {μ : zS} {ac : Nat → Int32}
/-- the values of the names, of one and a post -/
def zNm (e : Nat → Nat → Int32) (w q k : Nat) : Int32 :=
  if k = 0 then (if e 77 w = nI q then 1 else 0) else if k = 1 then e 78 w else if k = 2 then zsn (e 73 10).toNatClampNeg (e 82 (6 * w + q)) (e 81 (6 * w + q)) else if k = 3 then e 74 q else if k = 4 then e 75 q else nI (zct (fun j => !decide (e 82 (6 * w + j) = 0)) (e 73 1).toNatClampNeg)
theorem zjn_if {α : Type} {c : Prop} {_ : Decidable c} {a b : Int32} {k : Int32 → α} : zjn1 (fun j => if c then j a else j b) k = k (if c then a else b) := by
  rw [zjn1_eq]
  by_cases h : c
  · rw [if_pos h, if_pos h]
  · rw [if_neg h, if_neg h]
theorem zyr_c (h : zSt n p yr tx rl tp c μ) : (μ.2.1 73 10).toNatClampNeg = yr := by
  rw [h.2.2.2.2.2.2.1.2.2]; exact nI_clamp (by have := h.2.2.2.2.2.2.1.1; omega)
theorem zn_c (h : zSt n p yr tx rl tp c μ) : (μ.2.1 73 1).toNatClampNeg = n := by
  rw [h.2.1.2.2.1]; exact nI_clamp (by have := h.2.1.1; omega)
/-- six values into a row of six -/
def zw6 (μ : zS) (A : Nat) (x0 x1 x2 x3 x4 x5 : Int32) : zS := zuI (zuI (zuI (zuI (zuI (zuI μ A 0 x0) A 1 x1) A 2 x2) A 3 x3) A 4 x4) A 5 x5
theorem zw6_off {A a k : Nat} {x0 x1 x2 x3 x4 x5 : Int32} (h : a ≠ A) : (zw6 μ A x0 x1 x2 x3 x4 x5).2.1 a k = μ.2.1 a k := by
  unfold zw6
  rw [uI_off h, uI_off h, uI_off h, uI_off h, uI_off h, uI_off h]
theorem zw6_at {A k : Nat} {x0 x1 x2 x3 x4 x5 : Int32} (h : k < 6) : (zw6 μ A x0 x1 x2 x3 x4 x5).2.1 A k = if k = 0 then x0 else if k = 1 then x1 else if k = 2 then x2 else if k = 3 then x3 else if k = 4 then x4 else x5 := by
  unfold zw6
  rcases (show k = 0 ∨ k = 1 ∨ k = 2 ∨ k = 3 ∨ k = 4 ∨ k = 5 by omega) with rfl | rfl | rfl | rfl | rfl | rfl <;> simp [uI_at]
theorem X_desc {w q : Nat} (h : zSt n p yr tx rl tp c μ) (hw : w < p) (hq : q < n) : ∃ x0 x1 x2 x3 x4 x5, F_Person_describe μ (18 + 3 * w) (nI q) (some 1) (some 5) = some (zw6 μ 5 x0 x1 x2 x3 x4 x5) ∧ ∀ k, k < 6 → (zw6 μ 5 x0 x1 x2 x3 x4 x5).2.1 5 k = zNm μ.2.1 w q k := by
  obtain ⟨hf, hP, hPe, hAs, hTa, hBa, hYr, hTp, hTx, hIm, hSh, hLt⟩ := id h
  have hn6 := hP.1
  have hp7 := hPe.1
  have hw7 : w < 7 := by omega
  have hq6 : q < 6 := by omega
  obtain ⟨k1, k2, k3, k4, k5, k6, k7, -⟩ := hPe.2.2.2 w hw7 hw
  have hv := hP.2.2.2.2.2.2.2 q hq6 hq
  have hm := hP.2.2.2.2.2.1
  have hmb := hP.2.2.2.2.2.2.1 q hq6
  have hm01 := hP.2.2.2.1 q hq6
  have hyr := zyr_c h
  have hnc := zn_c h
  generalize hx0 : (if nI q = μ.2.1 (18 + 3 * w) 1 then (1 : Int32) else 0) = x0
  generalize hx3 : (if (if (μ.2.1 1 1).toNatClampNeg.testBit q then nI 1 else nI 0) = 0 then (0 : Int32) else 1) = x3
  generalize hx2 : zsn yr (μ.2.1 82 (6 * w + q)) (μ.2.1 81 (6 * w + q)) = x2
  generalize hx5 : nI (zct (fun q => !decide (μ.2.1 (19 + 3 * w) q = (-1))) 6) = x5
  have f1 : zFr (zuI μ 5 0 x0) := fr_uI hf
  have f2 : zFr (zuI (zuI μ 5 0 x0) 5 1 (μ.2.1 (18 + 3 * w) 2)) := fr_uI f1
  have f3 : zFr (zuI (zuI (zuI μ 5 0 x0) 5 1 (μ.2.1 (18 + 3 * w) 2)) 5 2 x2) := fr_uI f2
  have f4 : zFr (zuI (zuI (zuI (zuI μ 5 0 x0) 5 1 (μ.2.1 (18 + 3 * w) 2)) 5 2 x2) 5 3 x3) := fr_uI f3
  have f5 : zFr (zuI (zuI (zuI (zuI (zuI μ 5 0 x0) 5 1 (μ.2.1 (18 + 3 * w) 2)) 5 2 x2) 5 3 x3) 5 4 (μ.2.1 2 q)) := fr_uI f4
  have s0 : ∀ {u : zS} (hu : zFr u) v, zsI u (some 5) 0 v = some (zuI u 5 0 v) := fun hu v => sI_5 hu (j := 0) (by decide)
  have s1 : ∀ {u : zS} (hu : zFr u) v, zsI u (some 5) 1 v = some (zuI u 5 1 v) := fun hu v => sI_5 hu (j := 1) (by decide)
  have s2 : ∀ {u : zS} (hu : zFr u) v, zsI u (some 5) 2 v = some (zuI u 5 2 v) := fun hu v => sI_5 hu (j := 2) (by decide)
  have s3 : ∀ {u : zS} (hu : zFr u) v, zsI u (some 5) 3 v = some (zuI u 5 3 v) := fun hu v => sI_5 hu (j := 3) (by decide)
  have s4 : ∀ {u : zS} (hu : zFr u) v, zsI u (some 5) 4 v = some (zuI u 5 4 v) := fun hu v => sI_5 hu (j := 4) (by decide)
  have s5 : ∀ {u : zS} (hu : zFr u) v, zsI u (some 5) 5 v = some (zuI u 5 5 v) := fun hu v => sI_5 hu (j := 5) (by decide)
  refine ⟨x0, μ.2.1 (18 + 3 * w) 2, x2, x3, μ.2.1 2 q, x5, ?_, ?_⟩
  · have g2 := X_since (yr := yr) (n := n) f2 hw7 hq6 (t := μ.2.1 82 (6 * w + q)) (s := μ.2.1 81 (6 * w + q)) (by rw [uI_off (by omega), uI_off (by omega)]; exact (hTa w hw7 q hq6).1)
    have g3 := X_needs (q := q) (b := (μ.2.1 1 1).toNatClampNeg) f3 hq6 (by rw [uI_off (by omega), uI_off (by omega), uI_off (by omega)]; exact hm.2) hm.1
    have g5 := X_had f5 hw7
    have g5' : (fun j => !decide ((zuI (zuI (zuI (zuI (zuI μ 5 0 x0) 5 1 (μ.2.1 (18 + 3 * w) 2)) 5 2 x2) 5 3 x3) 5 4 (μ.2.1 2 q)).2.1 (19 + 3 * w) j = (-1))) = (fun q => !decide (μ.2.1 (19 + 3 * w) q = (-1))) := by
      funext j
      rw [uI_off (by omega), uI_off (by omega), uI_off (by omega), uI_off (by omega), uI_off (by omega)]
    rw [g5'] at g5
    unfold F_Person_describe
    rw [zln_5 hf, zb_some, if_pos (show (6 : Int32) ≤ nI 6 by decide), gI_P hf hw7, zb_some, zjn_if, hx0, s0 hf, zb_some, gI_P f1 hw7, zb_some, uI_off (by omega), s1 f1, zb_some, gI_1 f2, zb_some, uI_off (by omega), uI_off (by omega), hYr.2.1, fo_P f2 hw7, zb_some, g2, zb_some, hx2, s2 f2, zb_some, fo_1 f3, zb_some, g3, zb_some, zjn_if, hx3, s3 f3, zb_some, gR_1_2 f4, zb_some, aI_2 f4 hq6, zb_some, uI_off (by omega), uI_off (by omega), uI_off (by omega), uI_off (by omega), s4 f4, zb_some, fo_P f5 hw7, zb_some, g5, zb_some, hx5, s5 f5, zb_some]
    rfl
  · intro k hk
    rw [zw6_at hk]
    unfold zNm
    rw [hyr, hnc, hx2, ← zhad_eq hTa hw7 hn6, hx5, ← k6, ← hv.1, ← k3]
    have e0 : x0 = if μ.2.1 (18 + 3 * w) 1 = nI q then 1 else 0 := by
      rw [← hx0]
      by_cases z : nI q = μ.2.1 (18 + 3 * w) 1
      · rw [if_pos z, if_pos z.symm]
      · rw [if_neg z, if_neg (fun y => z y.symm)]
    have e3 : x3 = μ.2.1 74 q := by
      rw [← hx3, hmb]
      rcases hm01 with z | z <;> rw [z] <;> decide
    rw [e0, e3]
end S
