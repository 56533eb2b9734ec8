-- ===== first to forget =====
def zKp (e : Nat → Nat → Int32) (w : Nat) : Int32 := nI (zkp (e 76 w).toNatClampNeg (e 78 w).toNatClampNeg)
def zIs (e : Nat → Nat → Int32) (w q : Nat) : Bool := decide (e 82 (6 * w + q) = 1 ∧ ¬ e 83 (6 * w + q) = 1 ∧ ¬ zKp e w < nI (e 73 10).toNatClampNeg - e 81 (6 * w + q))
theorem zIs_i {e : Nat → Nat → Int32} {w q : Nat} : zIs e w q = true ↔ (e 82 (6 * w + q) = 1 ∧ ¬ e 83 (6 * w + q) = 1 ∧ ¬ zKp e w < nI (e 73 10).toNatClampNeg - e 81 (6 * w + q)) := by unfold zIs; exact decide_eq_true_iff
def zMo (e : Nat → Nat → Int32) (w q : Nat) : Int32 := zKp e w - zsn (e 73 10).toNatClampNeg (e 82 (6 * w + q)) (e 81 (6 * w + q))
def yfs (e : Nat → Nat → Int32) (w q : Nat) (s : Int32 × Int32) : Int32 × Int32 := if zIs e w q = true then (if s.1 = (-1) ∨ zMo e w q < s.2 then (nI (10 * w + q), zMo e w q) else s) else s
def yfq (f : Nat → Int32 × Int32 → Int32 × Int32) (s : Int32 × Int32) : Nat → Int32 × Int32
  | 0 => s
  | i + 1 => f i (yfq f s i)
def yfw (e : Nat → Nat → Int32) (n : Nat) : Nat → Int32 × Int32
  | 0 => (-1, 0)
  | w + 1 => yfq (yfs e w) (yfw e n w) n
theorem zfq_ok {e : Nat → Nat → Int32} {w : Nat} (hw : w < 7) {s : Int32 × Int32} (hs : s.1 = (-1) ∨ ¬ s.1 < 0) : ∀ i, i ≤ 6 → (yfq (yfs e w) s i).1 = (-1) ∨ ¬ (yfq (yfs e w) s i).1 < 0 := by
  intro i
  induction i with
  | zero => intro _; exact hs
  | succ i ih =>
    intro hi
    have h := ih (by omega)
    show (yfs e w i (yfq (yfs e w) s i)).1 = (-1) ∨ ¬ (yfs e w i (yfq (yfs e w) s i)).1 < 0
    generalize yfq (yfs e w) s i = t at h ⊢
    unfold yfs
    by_cases h1 : zIs e w i = true
    · rw [if_pos h1]
      by_cases h2 : t.1 = (-1) ∨ zMo e w i < t.2
      · rw [if_pos h2]
        exact Or.inr (nI_lt0 (by omega))
      · rw [if_neg h2]
        exact h
    · rw [if_neg h1]
      exact h
theorem zfw_ok {e : Nat → Nat → Int32} {n : Nat} (hn : n ≤ 6) : ∀ w, w ≤ 7 → (yfw e n w).1 = (-1) ∨ ¬ (yfw e n w).1 < 0 := by
  intro w
  induction w with
  | zero => intro _; exact Or.inl rfl
  | succ w ih => intro hw; exact zfq_ok (by omega) (ih (by omega)) n hn
section S
variable {n p yr tx rl tp c : Nat} {μ : zS}
theorem zmo_le {k y s : Nat} (hk : k ≤ 50) (hy : y ≤ 99) (hs : s ≤ 99) : (nI k - (nI y - nI s)) < 0 ↔ nI k < nI y - nI s := by
  have e0 : (0 : Int32).toInt = 0 := by decide
  have h1 : (nI y - nI s).toInt = (y : Int) - s := by
    rw [Int32.toInt_sub, nI_toInt (by omega), nI_toInt (by omega), Int.bmod_def]
    split <;> omega
  have h2 : (nI k - (nI y - nI s)).toInt = (k : Int) - ((y : Int) - s) := by
    rw [Int32.toInt_sub, nI_toInt (by omega), h1, Int.bmod_def]
    split <;> omega
  rw [fa_lt, fa_lt, h1, h2, e0, nI_toInt (by omega)]
  omega
theorem zkp_le {k nb : Nat} (h : nb ≤ 9) : zkp k nb ≤ 11 := by
  unfold zkp
  repeat (first | omega | split)
theorem X_first (h : zSt n p yr tx rl tp c μ) : F_X_first μ 0 = some (yfw μ.2.1 n p).1 := by
  obtain ⟨hf, hP, hPe, hAs, hTa, hBa, hYr, hTp, hTx, hIm, hSh, hLt⟩ := id h
  have hn6 := hP.1
  have hp7 := hPe.1
  have hyr := zyr_c h
  have n1 : ¬ nI 1 = 0 := by decide
  have n0 : nI 0 = 0 := rfl
  unfold F_X_first
  refine fix3_t p (fun i => (yfw μ.2.1 n i).1) (fun i => (yfw μ.2.1 n i).2) (fun i => nI i) ?_ ?_ (zFU_lt (by omega))
  · intro r w hw
    have hw7 : w < 7 := by omega
    obtain ⟨k1, k2, k3, k4, k5, k6, k7, -⟩ := hPe.2.2.2 w hw7 hw
    have hb := (hBa w hw7).1
    rw [gI_0 hf, zb_some, hPe.2.1, if_neg (show ¬ nI p ≤ nI w by rw [nI_leI (by omega) (by omega)]; omega), gR_0_1 hf, zb_some, aR_3 hf hw7, zb_some]
    refine fix3_t n (fun j => (yfq (yfs μ.2.1 w) (yfw μ.2.1 n w) j).1) (fun j => (yfq (yfs μ.2.1 w) (yfw μ.2.1 n w) j).2) (fun j => nI j) ?_ ?_ (zFU_lt (by omega))
    · intro r2 q hq
      have hq6 : q < 6 := by omega
      have e1 := X_isBarred hf hw7 hq6 hb.1.2 hb.1.1
      have e2 := X_recalls (yr := yr) (n := n) hf hw7 hq6 (k1.trans k2.2) (by have := k2.1; omega) (k6.trans k7.2) (hTa w hw7 q hq6).1
      have e3 := X_keeps hf hw7 (k1.trans k2.2) (by have := k2.1; omega) (k6.trans k7.2)
      have e4 := X_since (yr := yr) (n := n) hf hw7 hq6 (hTa w hw7 q hq6).1
      have e5 : yfq (yfs μ.2.1 w) (yfw μ.2.1 n w) (q + 1) = yfs μ.2.1 w q (yfq (yfs μ.2.1 w) (yfw μ.2.1 n w) q) := rfl
      rw [e5]
      generalize yfq (yfs μ.2.1 w) (yfw μ.2.1 n w) q = s
      rw [gR_0_0 hf, zb_some, gI_1 hf, zb_some, hP.2.1, if_neg (show ¬ nI n ≤ nI q by rw [nI_leI (by omega) (by omega)]; omega), fo_P hf hw7, zb_some, e1, zb_some, (hb.2 q hq6).2, show nI q + 1 = nI (q + 1) from nI_add q 1]
      unfold yfs
      by_cases hbar : μ.2.1 83 (6 * w + q) = 1
      · rw [if_pos (decide_eq_true hbar), if_neg n1, if_neg (fun z : zIs μ.2.1 w q = true => (zIs_i.mp z).2.1 hbar)]
      · rw [if_neg (fun z => hbar (of_decide_eq_true z)), if_pos n0, zb_some, gI_1 hf, zb_some, hYr.2.1, zb_some, e2, zb_some]
        have hIs : zIs μ.2.1 w q = true ↔ (μ.2.1 82 (6 * w + q) = 1 ∧ ¬ nI (zkp (μ.2.1 76 w).toNatClampNeg (μ.2.1 78 w).toNatClampNeg) < nI yr - μ.2.1 81 (6 * w + q)) := by
          rw [zIs_i]
          unfold zKp
          rw [hyr]
          exact ⟨fun z => ⟨z.1, z.2.2⟩, fun z => ⟨z.1, hbar, z.2⟩⟩
        by_cases hr : μ.2.1 82 (6 * w + q) = 1 ∧ ¬ nI (zkp (μ.2.1 76 w).toNatClampNeg (μ.2.1 78 w).toNatClampNeg) < nI yr - μ.2.1 81 (6 * w + q)
        · rw [if_pos hr, if_neg n1, if_pos (hIs.mpr hr)]
          simp only [zb_some, e3, gR_0_0 hf, gI_1 hf, hYr.2.1, e4, zlet_eq]
          rw [show (10 : Int32) = nI 10 from rfl, pk_mul, nI_add]
          have em : nI (zkp (μ.2.1 76 w).toNatClampNeg (μ.2.1 78 w).toNatClampNeg) - zsn yr (μ.2.1 82 (6 * w + q)) (μ.2.1 81 (6 * w + q)) = zMo μ.2.1 w q := by unfold zMo zKp; rw [hyr]
          rw [em]
          by_cases z1 : s.1 = (-1)
          · rw [if_pos z1, if_pos (Or.inl z1)]
          · rw [if_neg z1]
            by_cases z2 : s.2 ≤ zMo μ.2.1 w q
            · rw [if_pos z2, if_neg (fun z => z.elim z1 (fun z => absurd z2 (Int32.not_le.mpr z)))]
            · rw [if_neg z2, if_pos (Or.inr (Int32.not_le.mp z2))]
        · rw [if_neg hr, if_pos n0, if_neg (fun z => hr (hIs.mp z))]
    · intro r2
      rw [gR_0_0 hf, zb_some, gI_1 hf, zb_some, hP.2.1, if_pos (Int32.le_refl _), show nI w + 1 = nI (w + 1) from nI_add w 1]
      rfl
  · intro r
    rw [gI_0 hf, zb_some, hPe.2.1, if_pos (Int32.le_refl _)]
theorem M_first (h : zSt n p yr tx rl tp c μ) : F_M_first μ 73 = some (yfw μ.2.1 n p).1 := by
  obtain ⟨hf, hP, hPe, hAs, hTa, hBa, hYr, hTp, hTx, hIm, hSh, hLt⟩ := id h
  have hn6 := hP.1
  have hp7 := hPe.1
  have hyr := zyr_c h
  have n1 : ¬ nI 1 = 0 := by decide
  have m1 : ¬ (1 : Int32) = 0 := by decide
  have m2 : ¬ (0 : Int32) = 1 := by decide
  unfold F_M_first
  refine fix3_t p (fun i => (yfw μ.2.1 n i).1) (fun i => (yfw μ.2.1 n i).2) (fun i => nI i) ?_ ?_ (zFU_lt (by omega))
  · intro r w hw
    have hw7 : w < 7 := by omega
    obtain ⟨k1, k2, k3, k4, k5, k6, k7, -⟩ := hPe.2.2.2 w hw7 hw
    have hb := (hBa w hw7).1
    rw [gI_73 hf, zb_some, hPe.2.2.1, if_neg (show ¬ nI p ≤ nI w by rw [nI_leI (by omega) (by omega)]; omega)]
    refine fix3_t n (fun j => (yfq (yfs μ.2.1 w) (yfw μ.2.1 n w) j).1) (fun j => (yfq (yfs μ.2.1 w) (yfw μ.2.1 n w) j).2) (fun j => nI j) ?_ ?_ (zFU_lt (by omega))
    · intro r2 q hq
      have hq6 : q < 6 := by omega
      have e3 := M_keeps hf hw7 k2.2 (by have := k2.1; omega) k7.2
      have e4 := M_yearsOf (yr := yr) hf hw7 hq6 hYr.2.2
      have e5 : yfq (yfs μ.2.1 w) (yfw μ.2.1 n w) (q + 1) = yfs μ.2.1 w q (yfq (yfs μ.2.1 w) (yfw μ.2.1 n w) q) := rfl
      have ok := zfq_ok (e := μ.2.1) hw7 (zfw_ok (e := μ.2.1) (n := n) hn6 w (by omega)) q (by omega)
      have em : nI (zkp (μ.2.1 76 w).toNatClampNeg (μ.2.1 78 w).toNatClampNeg) - zsn yr (μ.2.1 82 (6 * w + q)) (μ.2.1 81 (6 * w + q)) = zMo μ.2.1 w q := by unfold zMo zKp; rw [hyr]
      try dsimp only
      rw [e5]
      generalize yfq (yfs μ.2.1 w) (yfw μ.2.1 n w) q = s at ok
      rw [gI_73 hf, zb_some, hP.2.2.1, if_neg (show ¬ nI n ≤ nI q by rw [nI_leI (by omega) (by omega)]; omega), fo_73 hf, show nI q + 1 = nI (q + 1) from nI_add q 1]
      have h6 : ((6 : Int32) * nI w) + nI q = nI (6 * w + q) := by rw [show (6 : Int32) = nI 6 from rfl, pk_mul, nI_add]
      have h10 : ((10 : Int32) * nI w) + nI q = nI (10 * w + q) := by rw [show (10 : Int32) = nI 10 from rfl, pk_mul, nI_add]
      simp only [zb_some, e3, e4, gR_73_12 hf, gR_73_13 hf, h6, h10, aI_82 hf (show 6 * w + q < 42 by omega), aI_83 hf (show 6 * w + q < 42 by omega), zjn1_eq, zlet_eq, em]
      unfold yfs
      have hb01 : μ.2.1 83 (6 * w + q) = 0 ∨ μ.2.1 83 (6 * w + q) = 1 := (hb.2 q hq6).1
      rcases (hTa w hw7 q hq6).1 with ⟨t1, t2⟩ | ⟨t1, t2, t3, t4⟩
      · rw [if_pos t1, if_pos trivial, if_neg (fun z : zIs μ.2.1 w q = true => by have := (zIs_i.mp z).1; rw [t1] at this; exact m2 this)]
      · rw [if_neg (show ¬ μ.2.1 82 (6 * w + q) = 0 by rw [t1]; exact m1)]
        rcases hb01 with b0 | b1
        · rw [if_pos b0]
          have hmm : zMo μ.2.1 w q < 0 ↔ zKp μ.2.1 w < nI yr - μ.2.1 81 (6 * w + q) := by
            unfold zMo zKp zsn
            rw [hyr, if_neg (show ¬ μ.2.1 82 (6 * w + q) = 0 by rw [t1]; exact m1), t3.2]
            exact zmo_le (Nat.le_trans (zkp_le k7.1) (by decide)) hYr.1 t3.1
          have hIs : zIs μ.2.1 w q = true ↔ ¬ zMo μ.2.1 w q < 0 := by
            rw [zIs_i, hyr, hmm]
            exact ⟨fun z => z.2.2, fun z => ⟨t1, by rw [b0]; exact m2, z⟩⟩
          by_cases z0 : zMo μ.2.1 w q < 0
          · rw [if_pos z0, if_pos trivial, if_neg (fun z => (hIs.mp z) z0)]
          · rw [if_neg z0, if_neg m1, if_pos (hIs.mpr z0)]
            by_cases z1 : s.1 = (-1)
            · rw [if_pos (show s.1 < 0 by rw [z1]; decide), if_pos (Or.inl z1)]
            · rw [if_neg (ok.resolve_left z1)]
              by_cases z2 : s.2 ≤ zMo μ.2.1 w q
              · rw [if_pos z2, if_neg (fun z => z.elim z1 (fun z => absurd z2 (Int32.not_le.mpr z)))]
              · rw [if_neg z2, if_pos (Or.inr (Int32.not_le.mp z2))]
        · rw [if_neg (show ¬ μ.2.1 83 (6 * w + q) = 0 by rw [b1]; exact m1), if_pos trivial, if_neg (fun z : zIs μ.2.1 w q = true => (zIs_i.mp z).2.1 b1)]
    · intro r2
      rw [gI_73 hf, zb_some, hP.2.2.1, if_pos (Int32.le_refl _), show nI w + 1 = nI (w + 1) from nI_add w 1]
      rfl
  · intro r
    rw [gI_73 hf, zb_some, hPe.2.2.1, if_pos (Int32.le_refl _)]
theorem K_first (h : zSt n p yr tx rl tp c μ) : ∃ v, F_X_first μ 0 = some v ∧ F_M_first μ 73 = some v := ⟨_, X_first h, M_first h⟩
end S
