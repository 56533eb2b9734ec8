-- ===== done =====
theorem yL_rg {C : Nat → Nat → Bool} {g : Nat → Nat → Nat} {n p : Nat} {mu : Nat → Bool} (hp : p ≤ 7) : ∀ (k : Nat) (F : Nat → Bool) (j : Nat), yL C g n p mu k F j = (-1) ∨ ∃ w, w < p ∧ yL C g n p mu k F j = nI w
  | 0, _, _ => Or.inl rfl
  | k + 1, F, j => by
    show (if j = n - (k + 1) then nI (yF C g n p mu k F) - 1 else yL C g n p mu k (ynx F (yF C g n p mu k F)) j) = (-1) ∨ ∃ w, w < p ∧ (if j = n - (k + 1) then nI (yF C g n p mu k F) - 1 else yL C g n p mu k (ynx F (yF C g n p mu k F)) j) = nI w
    by_cases h : j = n - (k + 1)
    · rw [if_pos h]
      have hF : yF C g n p mu k F ≤ p := yFj_le p
      by_cases h0 : yF C g n p mu k F = 0
      · left; rw [h0]; rfl
      · right
        exact ⟨yF C g n p mu k F - 1, by omega, nI_sub1 (by omega)⟩
    · rw [if_neg h]
      exact yL_rg hp k _ j
section S
variable {n p yr tx rl tp c : Nat} {μ : zS}
def yDx (a k : Nat) : Prop := (18 ≤ a ∧ a ≤ 38 ∧ (a - 18) % 3 = 0 ∧ k = 4) ∨ (18 ≤ a ∧ a ≤ 38 ∧ (a - 18) % 3 = 1)
def yDm (a _k : Nat) : Prop := a = 80 ∨ a = 81
/-- how often one is asked by the first so many posts -/
def yAk (who : Nat → Int32) (O : Nat → Nat) (w i : Nat) : Nat := zct (fun q => decide (who q = nI w ∧ ¬ O w = q)) i
def yFd (who : Nat → Int32) (i : Nat) : Nat := zct (fun q => !decide (who q = (-1))) i
theorem X_doneL {who : Nat → Int32} {u : zS} {A O : Nat → Nat} (h : zFr u) (hn : n ≤ 6) (hp : p ≤ 7) (h10 : u.2.1 1 0 = nI n) (h02 : u.2.1 0 2 = nI p) (h13 : u.2.1 1 3 = nI yr) (hwho : ∀ q, q < n → who q = (-1) ∨ ∃ w, w < p ∧ who q = nI w) (hat : ∀ q, q < n → u.2.1 12 q = who q) (hA : ∀ w, w < 7 → u.2.1 (18 + 3 * w) 4 = nI (A w)) (hO : ∀ w, w < p → u.2.1 (18 + 3 * w) 1 = nI (O w) ∧ O w < 6) :
    ∃ v, (zfix3 (fun (r6 : zS → Int32 → Int32 → Option (Int32 × zS)) (u7 : zS) (x8 : Int32) (x9 : Int32) => (zgR u7 8 (some 0) 0).bind fun v10 => (zgI u7 2 v10 0).bind fun v11 => if v11 ≤ x9 then (some (x8, u7)) else ((zgR u7 8 (some 0) 9).bind fun v12 => (zgR u7 4 v12 4).bind fun v13 => (zaI u7 .int v13 x9).bind fun v14 => (zob u7 8 (some 0)).bind fun q16 => (F_X_isPerson u7 q16 v14).bind fun v15 => if v15 = 0 then (r6 u7 x8 (x9 + 1)) else ((zgR u7 8 (some 0) 1).bind fun v17 => (zaR u7 "PostsFilled$Person" v17 v14).bind fun v18 => (zgR u7 8 (some 0) 0).bind fun v19 => (zgI u7 2 v19 3).bind fun v20 => (zob u7 3 v18).bind fun q23 => (F_Person_work u7 q23 x9 v20).bind fun u22 => r6 u22 (x8 + 1) (x9 + 1)))) zFU u 0 0) = some (nI (yFd who n), v) ∧ yNs yDx u v ∧ (∀ w, w < 7 → ∀ q, q < 6 → v.2.1 (19 + 3 * w) q = if q < n ∧ who q = nI w ∧ ¬ u.2.1 (19 + 3 * w) q = (-1) then nI yr else u.2.1 (19 + 3 * w) q) ∧ ∀ w, w < 7 → v.2.1 (18 + 3 * w) 4 = nI (A w + yAk who O w n) := by
  have n1 : ¬ nI 1 = 0 := by decide
  have n0 : nI 0 = 0 := rfl
  refine fix3_p n (fun i v x y => yNs yDx u v ∧ x = nI (yFd who i) ∧ y = nI i ∧ (∀ w, w < 7 → ∀ q, q < 6 → v.2.1 (19 + 3 * w) q = if q < i ∧ who q = nI w ∧ ¬ u.2.1 (19 + 3 * w) q = (-1) then nI yr else u.2.1 (19 + 3 * w) q) ∧ ∀ w, w < 7 → v.2.1 (18 + 3 * w) 4 = nI (A w + yAk who O w i)) (fun o => ∃ v, o = some (nI (yFd who n), v) ∧ yNs yDx u v ∧ (∀ w, w < 7 → ∀ q, q < 6 → v.2.1 (19 + 3 * w) q = if q < n ∧ who q = nI w ∧ ¬ u.2.1 (19 + 3 * w) q = (-1) then nI yr else u.2.1 (19 + 3 * w) q) ∧ ∀ w, w < 7 → v.2.1 (18 + 3 * w) 4 = nI (A w + yAk who O w n)) ?_ ?_ (zFU_lt (by omega)) ⟨yNs_rf h, rfl, rfl, fun w hw q hq => by rw [if_neg (fun z => Nat.not_lt_zero q z.1)], fun w hw => by rw [hA w hw]; rfl⟩
  · rintro r i v x y hi ⟨hv, rfl, rfl, hl, ha⟩
    have v10 : v.2.1 1 0 = nI n := (hv.2.2.2 _ _ (by unfold yDx; omega)).trans h10
    have v02 : v.2.1 0 2 = nI p := (hv.2.2.2 _ _ (by unfold yDx; omega)).trans h02
    have v13 : v.2.1 1 3 = nI yr := (hv.2.2.2 _ _ (by unfold yDx; omega)).trans h13
    have v12 : v.2.1 12 i = who i := (hv.2.2.2 _ _ (by unfold yDx; omega)).trans (hat i hi)
    left
    rw [gR_0_0 hv.1, zb_some, gI_1 hv.1, zb_some, v10, if_neg (show ¬ nI n ≤ nI i by rw [nI_leI (by omega) (by omega)]; omega), gR_0_9 hv.1, zb_some, gR_9_4 hv.1, zb_some, aI_12 hv.1 (by omega), zb_some, v12, fo_0 hv.1, zb_some, X_isPerson hv.1 v02, zb_some, show nI i + 1 = nI (i + 1) from nI_add i 1]
    rcases hwho i hi with hm | ⟨w, hw, hwe⟩
    · rw [hm, if_neg (show ¬ (nI 0 ≤ (-1) ∧ (-1) < nI p) from fun z => absurd z.1 (by decide)), if_pos n0]
      refine ⟨v, nI (yFd who (i + 1)), nI (i + 1), ⟨hv, rfl, rfl, fun w hw q hq => ?_, fun w hw => ?_⟩, ?_⟩
      · rw [hl w hw q hq]
        by_cases z : q = i
        · subst z
          rw [if_neg (fun z => Nat.lt_irrefl _ z.1), if_neg]
          rintro ⟨-, z1, -⟩
          rw [hm] at z1
          exact nI_n1 (by omega) z1.symm
        · have e : (q < i + 1 ∧ who q = nI w ∧ ¬ u.2.1 (19 + 3 * w) q = (-1)) ↔ (q < i ∧ who q = nI w ∧ ¬ u.2.1 (19 + 3 * w) q = (-1)) := ⟨fun y => ⟨by omega, y.2⟩, fun y => ⟨by omega, y.2⟩⟩
          simp only [e]
      · rw [ha w hw]
        congr 2
        unfold yAk
        rw [zct_s, decide_eq_false (fun z => by rw [hm] at z; exact nI_n1 (by omega) z.1.symm)]
        rfl
      · congr 2
        unfold yFd
        rw [zct_s, hm, decide_eq_true rfl]
        rfl
    · have hw7 : w < 7 := by omega
      obtain ⟨o1, o2⟩ := hO w hw
      have vo : v.2.1 (18 + 3 * w) 1 = nI (O w) := (hv.2.2.2 _ _ (by unfold yDx; omega)).trans o1
      rw [hwe, if_pos (zc_lt hw (by omega)), if_neg n1, gR_0_1 hv.1, zb_some, aR_3 hv.1 hw7, zb_some, zb_some, gI_1 hv.1, zb_some, v13, fo_P hv.1 hw7, zb_some]
      -- the work
      have hlast : v.2.1 (19 + 3 * w) i = u.2.1 (19 + 3 * w) i := by
        rw [hl w hw7 i (by omega), if_neg (fun z => Nat.lt_irrefl _ z.1)]
      generalize hv1 : (if u.2.1 (19 + 3 * w) i = (-1) then v else zuI v (19 + 3 * w) i (nI yr)) = v1
      have g1 : yNs yDx u v1 := by
        rw [← hv1]
        split
        · exact hv
        · exact yNs_w hv (Or.inr (by omega))
      have l1 : ∀ w', w' < 7 → ∀ q, q < 6 → v1.2.1 (19 + 3 * w') q = if q < i + 1 ∧ who q = nI w' ∧ ¬ u.2.1 (19 + 3 * w') q = (-1) then nI yr else u.2.1 (19 + 3 * w') q := by
        intro w' hw' q hq
        by_cases z : q = i ∧ w' = w
        · obtain ⟨rfl, rfl⟩ := z
          rw [← hv1]
          by_cases y : u.2.1 (19 + 3 * w') q = (-1)
          · rw [if_pos y, hlast, if_neg (fun z => z.2.2 y)]
          · rw [if_neg y, uI_at, if_pos ⟨rfl, rfl⟩, if_pos ⟨Nat.lt_succ_self q, hwe, y⟩]
        · have e0 : v1.2.1 (19 + 3 * w') q = v.2.1 (19 + 3 * w') q := by
            rw [← hv1]
            split
            · rfl
            · rw [uI_at, if_neg (by omega)]
          rw [e0, hl w' hw' q hq]
          by_cases z2 : q = i
          · subst z2
            rw [if_neg (fun z => Nat.lt_irrefl _ z.1), if_neg]
            rintro ⟨-, z1, -⟩
            rw [hwe] at z1
            exact z ⟨rfl, (nI_inj (by omega) (by omega) z1).symm⟩
          · have e : (q < i + 1 ∧ who q = nI w' ∧ ¬ u.2.1 (19 + 3 * w') q = (-1)) ↔ (q < i ∧ who q = nI w' ∧ ¬ u.2.1 (19 + 3 * w') q = (-1)) := ⟨fun y => ⟨by omega, y.2⟩, fun y => ⟨by omega, y.2⟩⟩
            simp only [e]
      have a1 : ∀ w', w' < 7 → v1.2.1 (18 + 3 * w') 4 = nI (A w' + yAk who O w' i) := by
        intro w' hw'
        rw [← ha w' hw', ← hv1]
        split
        · rfl
        · rw [uI_at, if_neg (by omega)]
      have vo1 : v1.2.1 (18 + 3 * w) 1 = nI (O w) := (g1.2.2.2 _ _ (by unfold yDx; omega)).trans o1
      have hwork : F_Person_work v (18 + 3 * w) (nI i) (nI yr) = some (if O w = i then v1 else zuI v1 (18 + 3 * w) 4 (nI (A w + yAk who O w i + 1))) := by
        have hj : ∀ (k4 : zS → Option zS), zjn1 (fun (j4 : zS → Option zS) => if u.2.1 (19 + 3 * w) i = (-1) then j4 v else ((some (some (19 + 3 * w)) : Option (Option Nat)).bind fun v8 => (zsI v v8 (nI i) (nI yr)).bind fun u9 => j4 u9)) k4 = k4 v1 := by
          intro k4
          rw [← hv1, zjn1_eq]
          by_cases y : u.2.1 (19 + 3 * w) i = (-1)
          · rw [if_pos y, if_pos y]
          · rw [if_neg y, if_neg y, zb_some, sI_P_5 hv.1 hw7 (by omega), zb_some]
        unfold F_Person_work
        rw [gR_P_5 hv.1 hw7, zb_some, aI_P_5 hv.1 hw7 (by omega), zb_some, hlast, hj, gI_P g1.1 hw7, zb_some, vo1]
        by_cases y : O w = i
        · rw [if_pos (show nI i = nI (O w) by rw [y]), if_pos y]
        · rw [if_neg (show ¬ nI i = nI (O w) from fun z => y (nI_inj (by omega) (by omega) z).symm), if_neg y, gI_P g1.1 hw7, zb_some, a1 w hw7, show nI (A w + yAk who O w i) + 1 = nI (A w + yAk who O w i + 1) from nI_add _ 1, pI_P g1.1 hw7, zb_some]
      rw [hwork, zb_some]
      refine ⟨if O w = i then v1 else zuI v1 (18 + 3 * w) 4 (nI (A w + yAk who O w i + 1)), nI (yFd who (i + 1)), nI (i + 1), ⟨?_, rfl, rfl, fun w' hw' q hq => ?_, fun w' hw' => ?_⟩, ?_⟩
      · split
        · exact g1
        · exact yNs_w g1 (Or.inl (by omega))
      · rw [← l1 w' hw' q hq]
        split
        · rfl
        · rw [uI_at, if_neg (by omega)]
      · unfold yAk
        rw [zct_s]
        by_cases z : w' = w
        · subst z
          by_cases y : O w' = i
          · rw [if_pos y, a1 w' hw', decide_eq_false (fun z => z.2 y)]
            rfl
          · rw [if_neg y, uI_at, if_pos ⟨rfl, rfl⟩, decide_eq_true ⟨hwe, y⟩]
            rfl
        · have e0 : (if O w = i then v1 else zuI v1 (18 + 3 * w) 4 (nI (A w + yAk who O w i + 1))).2.1 (18 + 3 * w') 4 = v1.2.1 (18 + 3 * w') 4 := by
            split
            · rfl
            · rw [uI_at, if_neg (by omega)]
          unfold yAk at e0
          rw [e0, a1 w' hw', decide_eq_false (fun y => by rw [hwe] at y; exact z (nI_inj (by omega) (by omega) y.1).symm)]
          rfl
      · congr 1
        unfold yFd
        rw [zct_s, hwe, decide_eq_false (nI_n1 (by omega)), show nI (zct (fun q => !decide (who q = -1)) i) + 1 = nI (zct (fun q => !decide (who q = -1)) i + 1) from nI_add _ 1]
        rfl
  · rintro r v x y ⟨hv, rfl, rfl, hl, ha⟩
    refine ⟨v, ?_, hv, hl, ha⟩
    rw [gR_0_0 hv.1, zb_some, gI_1 hv.1, zb_some, (hv.2.2.2 1 0 (by unfold yDx; omega)).trans h10, if_pos (Int32.le_refl _)]
theorem M_doneL {who : Nat → Int32} {u : zS} {A O : Nat → Nat} (h : zFr u) (hn : n ≤ 6) (hp : p ≤ 7) (h1 : u.2.1 73 1 = nI n) (h10 : u.2.1 73 10 = nI yr) (hwho : ∀ q, q < n → who q = (-1) ∨ ∃ w, w < p ∧ who q = nI w) (hat : ∀ q, q < n → u.2.1 94 q = who q) (hA : ∀ w, w < 7 → u.2.1 80 w = nI (A w)) (hO : ∀ w, w < p → u.2.1 77 w = nI (O w) ∧ O w < 6) :
    ∃ v, (zfix3 (fun (r12 : zS → Int32 → Int32 → Option (Int32 × zS)) (u13 : zS) (x14 : Int32) (x15 : Int32) => (zgI u13 9 (some 73) 1).bind fun v16 => if v16 ≤ x15 then (some (x14, u13)) else ((zgR u13 9 (some 73) 35).bind fun v17 => (zaI u13 .int v17 x15).bind fun v18 => if 0 ≤ v18 then ((zgR u13 9 (some 73) 12).bind fun v19 => (zaI u13 .boolean v19 (((6 : Int32) * v18) + x15)).bind fun v20 => zjn1 (fun (j22 : zS → Option (Int32 × zS)) => if v20 = 0 then (j22 u13) else ((zgR u13 9 (some 73) 11).bind fun v29 => (zgI u13 9 (some 73) 10).bind fun v30 => (zsI u13 v29 (((6 : Int32) * v18) + x15) v30).bind fun u31 => j22 u31)) (fun (u21 : zS) => (zgR u21 9 (some 73) 9).bind fun v23 => (zaI u21 .int v23 v18).bind fun v24 => (zgR u21 9 (some 73) 6).bind fun v25 => (zaI u21 .int v25 v18).bind fun v26 => if v26 = x15 then ((zsI u21 v23 v18 (v24 + 0)).bind fun u28 => r12 u28 (x14 + 1) (x15 + 1)) else ((zsI u21 v23 v18 (v24 + 1)).bind fun u27 => r12 u27 (x14 + 1) (x15 + 1)))) else (r12 u13 x14 (x15 + 1)))) zFU u 0 0) = some (nI (yFd who n), v) ∧ yNs yDm u v ∧ (∀ w, w < 7 → ∀ q, q < 6 → v.2.1 81 (6 * w + q) = if q < n ∧ who q = nI w ∧ ¬ u.2.1 82 (6 * w + q) = 0 then nI yr else u.2.1 81 (6 * w + q)) ∧ ∀ w, w < 7 → v.2.1 80 w = nI (A w + yAk who O w n) := by
  have n1 : ¬ nI 1 = 0 := by decide
  have n0 : nI 0 = 0 := rfl
  refine fix3_p n (fun i v x y => yNs yDm u v ∧ x = nI (yFd who i) ∧ y = nI i ∧ (∀ w, w < 7 → ∀ q, q < 6 → v.2.1 81 (6 * w + q) = if q < i ∧ who q = nI w ∧ ¬ u.2.1 82 (6 * w + q) = 0 then nI yr else u.2.1 81 (6 * w + q)) ∧ ∀ w, w < 7 → v.2.1 80 w = nI (A w + yAk who O w i)) (fun o => ∃ v, o = some (nI (yFd who n), v) ∧ yNs yDm u v ∧ (∀ w, w < 7 → ∀ q, q < 6 → v.2.1 81 (6 * w + q) = if q < n ∧ who q = nI w ∧ ¬ u.2.1 82 (6 * w + q) = 0 then nI yr else u.2.1 81 (6 * w + q)) ∧ ∀ w, w < 7 → v.2.1 80 w = nI (A w + yAk who O w n)) ?_ ?_ (zFU_lt (by omega)) ⟨yNs_rf h, rfl, rfl, fun w hw q hq => by rw [if_neg (fun z => Nat.not_lt_zero q z.1)], fun w hw => by rw [hA w hw]; rfl⟩
  · rintro r i v x y hi ⟨hv, rfl, rfl, hl, ha⟩
    have v1' : v.2.1 73 1 = nI n := (hv.2.2.2 _ _ (by unfold yDm; omega)).trans h1
    have v10 : v.2.1 73 10 = nI yr := (hv.2.2.2 _ _ (by unfold yDm; omega)).trans h10
    have v94 : v.2.1 94 i = who i := (hv.2.2.2 _ _ (by unfold yDm; omega)).trans (hat i hi)
    left
    rw [gI_73 hv.1, zb_some, v1', if_neg (show ¬ nI n ≤ nI i by rw [nI_leI (by omega) (by omega)]; omega), gR_73_35 hv.1, zb_some, aI_94 hv.1 (by omega), zb_some, v94, show nI i + 1 = nI (i + 1) from nI_add i 1]
    rcases hwho i hi with hm | ⟨w, hw, hwe⟩
    · rw [hm, if_neg (show ¬ (0 : Int32) ≤ (-1) by decide)]
      refine ⟨v, nI (yFd who (i + 1)), nI (i + 1), ⟨hv, rfl, rfl, fun w hw q hq => ?_, fun w hw => ?_⟩, ?_⟩
      · rw [hl w hw q hq]
        by_cases z : q = i
        · subst z
          rw [if_neg (fun z => Nat.lt_irrefl _ z.1), if_neg]
          rintro ⟨-, z1, -⟩
          rw [hm] at z1
          exact nI_n1 (by omega) z1.symm
        · have e : (q < i + 1 ∧ who q = nI w ∧ ¬ u.2.1 82 (6 * w + q) = 0) ↔ (q < i ∧ who q = nI w ∧ ¬ u.2.1 82 (6 * w + q) = 0) := ⟨fun y => ⟨by omega, y.2⟩, fun y => ⟨by omega, y.2⟩⟩
          simp only [e]
      · rw [ha w hw]
        congr 2
        unfold yAk
        rw [zct_s, decide_eq_false (fun z => by rw [hm] at z; exact nI_n1 (by omega) z.1.symm)]
        rfl
      · congr 2
        unfold yFd
        rw [zct_s, hm, decide_eq_true rfl]
        rfl
    · have hw7 : w < 7 := by omega
      obtain ⟨o1, o2⟩ := hO w hw
      have h6 : ((6 : Int32) * nI w) + nI i = nI (6 * w + i) := by rw [show (6 : Int32) = nI 6 from rfl, pk_mul, nI_add]
      have v82 : v.2.1 82 (6 * w + i) = u.2.1 82 (6 * w + i) := hv.2.2.2 _ _ (by unfold yDm; omega)
      rw [hwe, if_pos (nI_nn (by omega)), gR_73_12 hv.1, zb_some, h6, aI_82 hv.1 (by omega), zb_some, v82, gR_73_11 hv.1, gI_73 hv.1, v10]
      generalize hv1 : (if u.2.1 82 (6 * w + i) = 0 then v else zuI v 81 (6 * w + i) (nI yr)) = v1
      have g1 : yNs yDm u v1 := by
        rw [← hv1]
        split
        · exact hv
        · exact yNs_w hv (Or.inr rfl)
      have l1 : ∀ w', w' < 7 → ∀ q, q < 6 → v1.2.1 81 (6 * w' + q) = if q < i + 1 ∧ who q = nI w' ∧ ¬ u.2.1 82 (6 * w' + q) = 0 then nI yr else u.2.1 81 (6 * w' + q) := by
        intro w' hw' q hq
        by_cases z : q = i ∧ w' = w
        · obtain ⟨rfl, rfl⟩ := z
          rw [← hv1]
          by_cases y : u.2.1 82 (6 * w' + q) = 0
          · rw [if_pos y, hl w' hw' q hq, if_neg (fun z => Nat.lt_irrefl _ z.1), if_neg (fun z => z.2.2 y)]
          · rw [if_neg y, uI_at, if_pos ⟨rfl, rfl⟩, if_pos ⟨Nat.lt_succ_self q, hwe, y⟩]
        · have e0 : v1.2.1 81 (6 * w' + q) = v.2.1 81 (6 * w' + q) := by
            rw [← hv1]
            split
            · rfl
            · rw [uI_at, if_neg (by omega)]
          rw [e0, hl w' hw' q hq]
          by_cases z2 : q = i
          · subst z2
            rw [if_neg (fun z => Nat.lt_irrefl _ z.1), if_neg]
            rintro ⟨-, z1, -⟩
            rw [hwe] at z1
            exact z ⟨rfl, (nI_inj (by omega) (by omega) z1).symm⟩
          · have e : (q < i + 1 ∧ who q = nI w' ∧ ¬ u.2.1 82 (6 * w' + q) = 0) ↔ (q < i ∧ who q = nI w' ∧ ¬ u.2.1 82 (6 * w' + q) = 0) := ⟨fun y => ⟨by omega, y.2⟩, fun y => ⟨by omega, y.2⟩⟩
            simp only [e]
      have a1 : ∀ w', w' < 7 → v1.2.1 80 w' = nI (A w' + yAk who O w' i) := by
        intro w' hw'
        rw [← ha w' hw', ← hv1]
        split
        · rfl
        · rw [uI_at, if_neg (by omega)]
      have vo1 : v1.2.1 77 w = nI (O w) := (g1.2.2.2 _ _ (by unfold yDm; omega)).trans o1
      have hj : ∀ (k22 : zS → Option (Int32 × zS)), zjn1 (fun (j22 : zS → Option (Int32 × zS)) => if u.2.1 82 (6 * w + i) = 0 then j22 v else ((some (some 81) : Option (Option Nat)).bind fun v29 => (some (nI yr) : Option Int32).bind fun v30 => (zsI v v29 (nI (6 * w + i)) v30).bind fun u31 => j22 u31)) k22 = k22 v1 := by
        intro k22
        rw [← hv1, zjn1_eq]
        by_cases y : u.2.1 82 (6 * w + i) = 0
        · rw [if_pos y, if_pos y]
        · rw [if_neg y, if_neg y, zb_some, zb_some, sI_81 hv.1 (by omega), zb_some]
      rw [hj, gR_73_9 g1.1, zb_some, aI_80 g1.1 hw7, zb_some, gR_73_6 g1.1, zb_some, aI_77 g1.1 hw7, zb_some, vo1, a1 w hw7, sI_80 g1.1 hw7, sI_80 g1.1 hw7, zb_some, zb_some]
      refine ⟨zuI v1 80 w (nI (A w + yAk who O w (i + 1))), nI (yFd who (i + 1)), nI (i + 1), ⟨yNs_w g1 (Or.inl rfl), rfl, rfl, fun w' hw' q hq => ?_, fun w' hw' => ?_⟩, ?_⟩
      · rw [← l1 w' hw' q hq, uI_at, if_neg (by omega)]
      · by_cases z : w' = w
        · subst z
          rw [uI_at, if_pos ⟨rfl, rfl⟩]
        · rw [uI_at, if_neg (fun y => z y.2), a1 w' hw']
          unfold yAk
          rw [zct_s, decide_eq_false (fun y => by rw [hwe] at y; exact z (nI_inj (by omega) (by omega) y.1).symm)]
          rfl
      · have ef : nI (yFd who i) + 1 = nI (yFd who (i + 1)) := by
          unfold yFd
          rw [zct_s, hwe, decide_eq_false (nI_n1 (by omega)), show nI (zct (fun q => !decide (who q = -1)) i) + 1 = nI (zct (fun q => !decide (who q = -1)) i + 1) from nI_add _ 1]
          rfl
        rw [ef]
        unfold yAk
        rw [zct_s]
        by_cases y : O w = i
        · rw [if_pos (show nI (O w) = nI i by rw [y]), decide_eq_false (fun z => z.2 y), show nI (A w + zct (fun q => decide (who q = nI w ∧ ¬ O w = q)) i) + 0 = nI (A w + zct (fun q => decide (who q = nI w ∧ ¬ O w = q)) i + 0) from nI_add _ 0]
          rfl
        · rw [if_neg (show ¬ nI (O w) = nI i from fun z => y (nI_inj (by omega) (by omega) z)), decide_eq_true ⟨hwe, y⟩, show nI (A w + zct (fun q => decide (who q = nI w ∧ ¬ O w = q)) i) + 1 = nI (A w + zct (fun q => decide (who q = nI w ∧ ¬ O w = q)) i + 1) from nI_add _ 1]
          rfl
  · rintro r v x y ⟨hv, rfl, rfl, hl, ha⟩
    refine ⟨v, ?_, hv, hl, ha⟩
    rw [gI_73 hv.1, zb_some, (hv.2.2.2 73 1 (by unfold yDm; omega)).trans h1, if_pos (Int32.le_refl _)]
end S
