-- ===== the class's course =====
def yNj (P : Nat → Nat → Prop) (μ μ1 : zS) : Prop := zFr μ1 ∧ μ1.1 = μ.1 ∧ μ1.2.2.2 = μ.2.2.2 ∧ ∀ a k, ¬ P a k → μ1.2.1 a k = μ.2.1 a k
theorem yNj_rf {P : Nat → Nat → Prop} {u : zS} (h : zFr u) : yNj P u u := ⟨h, rfl, rfl, fun _ _ _ => rfl⟩
theorem yNj_tr {P : Nat → Nat → Prop} {u u' u2 : zS} (h : yNj P u u') (h2 : yNj P u' u2) : yNj P u u2 := ⟨h2.1, h2.2.1.trans h.2.1, h2.2.2.1.trans h.2.2.1, fun a k x => (h2.2.2.2 a k x).trans (h.2.2.2 a k x)⟩
theorem yNj_of {P Q : Nat → Nat → Prop} {u u' : zS} (h : yNs P u u') (hPQ : ∀ a k, P a k → Q a k) : yNj Q u u' := ⟨h.1, h.2.1, by rw [h.2.2.1], fun a k x => h.2.2.2 a k (fun y => x (hPQ a k y))⟩
theorem yNj_w {P : Nat → Nat → Prop} {u u' : zS} {a j : Nat} {v : Int32} (h : yNj P u u') (hP : P a j) : yNj P u (zuI u' a j v) := ⟨fr_uI h.1, h.2.1, h.2.2.1, fun b k x => by
  rw [uI_at, if_neg (fun y => x (by rw [y.1, y.2]; exact hP))]
  exact h.2.2.2 b k x⟩
theorem yNj_J {P : Nat → Nat → Prop} {u u' : zS} {a j : Nat} {v : Int64} (h : yNj P u u') : yNj P u (zuJ u' a j v) := ⟨fr_uJ h.1, h.2.1, h.2.2.1, h.2.2.2⟩
theorem yNj_ag {P : Nat → Nat → Prop} {tx : Nat} {u u' : zS} (h : yNj P u u') (hP : ∀ a k, P a k → ¬ zess tx a k) : zAg tx u u' := ⟨h.1, fun a k hk => h.2.2.2 a k (fun y => hP a k y hk)⟩
theorem yNj_dt {P : Nat → Nat → Prop} {u u' : zS} (h : yNj P u u') (hP : ∀ a k, P a k → ¬ ((74 ≤ a ∧ a ≤ 88) ∨ (a = 73 ∧ (k = 1 ∨ k = 4 ∨ k = 10 ∨ k = 16 ∨ k = 17)))) : zDt u.2.1 u'.2.1 := fun a k hk => h.2.2.2 a k (fun y => hP a k y hk)
def yBK (a _k : Nat) : Prop := a = 5 ∨ (42 ≤ a ∧ a ≤ 62 ∧ (a - 42) % 4 = 0) ∨ (13 ≤ a ∧ a ≤ 15)
/-- the lessons offered so far -/
def yCr (e : Nat → Nat → Int32) (n p rl k : Nat) (v : zS) : Prop := v.2.1 13 0 = nI (yCt e n p k) ∧ ∀ j, j < k → yIs e n p j = true → v.2.1 14 (yCt e n p j) = nI j ∧ v.2.1 15 (yCt e n p j) = nI (zCost e rl (j / 10) (j % 10)) ∧ ∀ S, S < 64 → yLb (v.2.2.1 16 (yCt e n p j)) S = yhb (zCan e) n j S
section S
variable {n p yr tx rl tp c : Nat} {μ : zS}
theorem yCt_lt {e : Nat → Nat → Int32} {k j : Nat} (h : j < k) (hj : yIs e n p j = true) : yCt e n p j < yCt e n p k := by
  have h1 := zct_mn (P := yIs e n p) (show j + 1 ≤ k by omega)
  have h2 : zct (yIs e n p) (j + 1) = zct (yIs e n p) j + 1 := by rw [zct_s, hj]; rfl
  unfold yCt
  omega
theorem yCr_no {e : Nat → Nat → Int32} {k k' : Nat} {v : zS} (h : yCr e n p rl k v) (hk : k ≤ k') (hno : ∀ j, k ≤ j → j < k' → yIs e n p j = false) : yCr e n p rl k' v := by
  have h1 : yCt e n p k' = yCt e n p k := zct_z hk hno
  refine ⟨by rw [h1]; exact h.1, fun j hj hl => ?_⟩
  by_cases z : j < k
  · exact h.2 j z hl
  · rw [hno j (by omega) hj] at hl; cases hl
theorem X_helped {C : Nat → Nat → Bool} {mu : Nat → Bool} {u : zS} {w q : Nat} (hf : zFr u) (hc : yCv C mu n p u.2.1) (hw : w < p) (hq : q < n) : ∃ x, F_Cover_helpedBy u 6 (nI w) (nI q) = some x ∧ ∀ S, S < 64 → yLb x S = (S.testBit q && !yrb C n S w) := by
  obtain ⟨hn6, hp7, -, h8⟩ := hc
  have h2p := p2_le hp7
  unfold F_Cover_helpedBy
  refine fix2_p 63 (fun i x y => y = nI (i + 1) ∧ ∀ S, S < 64 → yLb x S = (decide (S ≤ i) && (S.testBit q && !yrb C n S w))) (fun o => ∃ x, o = some x ∧ ∀ S, S < 64 → yLb x S = (S.testBit q && !yrb C n S w)) ?_ ?_ (zFU_lt (by omega)) ⟨rfl, fun S hS => ?_⟩
  · rintro r i x y hi ⟨rfl, hx⟩
    have hml : ymk (yrb C n (i + 1)) p < 128 := Nat.lt_of_lt_of_le ymk_lt h2p
    have no : ((i + 1).testBit q && !yrb C n (i + 1) w) = false → ∀ S, S < 64 → yLb x S = (decide (S ≤ i + 1) && (S.testBit q && !yrb C n S w)) := by
      intro hno S hS
      rw [hx S hS]
      by_cases z : S = i + 1
      · subst z; rw [hno, Bool.and_false, Bool.and_false]
      · congr 1
        by_cases y : S ≤ i
        · rw [decide_eq_true y, decide_eq_true (by omega)]
        · rw [decide_eq_false y, decide_eq_false (by omega)]
    left
    rw [if_neg (show ¬ (64 : Int32) ≤ nI (i + 1) by rw [show (64 : Int32) = nI 64 from rfl, nI_leI (by omega) (by omega)]; omega), show nI (i + 1) + 1 = nI (i + 1 + 1) from nI_add (i + 1) 1]
    by_cases h1 : (i + 1).testBit q = true
    · rw [if_pos ((nI_bit (by omega) (by omega)).mpr h1), gR_6_2 hf, zb_some, aI_8 hf (by omega), zb_some, h8 (i + 1) (by omega), zlet_eq]
      have htb : (ymk (yrb C n (i + 1)) p).testBit w = yrb C n (i + 1) w := by rw [ymk_tb, decide_eq_true hw, Bool.true_and]
      by_cases h2 : yrb C n (i + 1) w = true
      · rw [if_neg (show ¬ ((nI (ymk (yrb C n (i + 1)) p) >>> (nI w &&& 31)) &&& 1) = 0 from fun z => by have := (n_bit0 (by omega) (by omega)).mp z; rw [htb, h2] at this; cases this)]
        exact ⟨_, _, ⟨rfl, no (by rw [h2]; simp)⟩, rfl⟩
      · have h2' := ytf.mpr h2
        rw [if_pos ((n_bit0 (by omega) (by omega)).mpr (by rw [htb]; exact h2'))]
        refine ⟨_, _, ⟨rfl, fun S hS => ?_⟩, rfl⟩
        rw [yLb_or, hx S hS, yLb_1 ⟨i + 1, by omega⟩ ⟨S, hS⟩]
        try dsimp only
        by_cases z : S = i + 1
        · subst z
          rw [decide_eq_true rfl, Bool.or_true, decide_eq_true (Nat.le_refl (i + 1)), h1, h2']; rfl
        · rw [decide_eq_false z, Bool.or_false]
          congr 1
          by_cases y : S ≤ i
          · rw [decide_eq_true y, decide_eq_true (by omega)]
          · rw [decide_eq_false y, decide_eq_false (by omega)]
    · rw [if_neg (show ¬ ((nI (i + 1) >>> (nI q &&& 31)) &&& 1) = 1 from fun z => h1 ((nI_bit (by omega) (by omega)).mp z))]
      exact ⟨_, _, ⟨rfl, no (by rw [ytf.mpr h1]; rfl)⟩, rfl⟩
  · rintro r x y ⟨rfl, hx⟩
    refine ⟨x, ?_, fun S hS => ?_⟩
    · rw [if_pos (show (64 : Int32) ≤ nI (63 + 1) by decide)]
    · rw [hx S hS, decide_eq_true (show S ≤ 63 by omega), Bool.true_and]
  · rw [yLb_0]
    by_cases z : S ≤ 0
    · rw [show S = 0 by omega, Nat.zero_testBit]; simp
    · rw [decide_eq_false z, Bool.false_and]
theorem X_offer1 {u : zS} {i : Nat} {a b : Int32} {x : Int64} (hf : zFr u) (h0 : u.2.1 13 0 = nI i) (hi : i < 42) : F_Course_offer u 13 a b x = some (zuI (zuJ (zuI (zuI u 14 i a) 15 i b) 16 i x) 13 0 (nI (i + 1))) := by
  have f1 : zFr (zuI u 14 i a) := fr_uI hf
  have f2 : zFr (zuI (zuI u 14 i a) 15 i b) := fr_uI f1
  have f3 : zFr (zuJ (zuI (zuI u 14 i a) 15 i b) 16 i x) := fr_uJ f2
  have g1 : (zuI u 14 i a).2.1 13 0 = nI i := by rw [uI_off (by omega)]; exact h0
  have g2 : (zuI (zuI u 14 i a) 15 i b).2.1 13 0 = nI i := by rw [uI_off (by omega)]; exact g1
  have g3 : (zuJ (zuI (zuI u 14 i a) 15 i b) 16 i x).2.1 13 0 = nI i := g2
  unfold F_Course_offer
  rw [gI_13 hf, zb_some, h0, if_neg (show ¬ (42 : Int32) ≤ nI i by rw [show (42 : Int32) = nI 42 from rfl, nI_leI (by omega) (by omega)]; omega), gR_13_1 hf, zb_some, zb_some, sI_14 hf hi, zb_some, gR_13_2 f1, zb_some, gI_13 f1, zb_some, g1, sI_15 f1 hi, zb_some, gR_13_3 f2, zb_some, gI_13 f2, zb_some, g2, sJ_16 f2 hi, zb_some, gI_13 f3, zb_some, g3, show nI i + 1 = nI (i + 1) from nI_add i 1, pI_13 f3, zb_some]
theorem X_offers (h : zSt n p yr tx rl tp c μ) {u : zS} (hu : zSt n p yr tx rl tp c u) (hd : zDt μ.2.1 u.2.1) (hc : yCv (zCan μ.2.1) (yMu μ.2.1) n p u.2.1) (h0 : u.2.1 13 0 = 0) : ∃ v, F_X_offerLessons u 0 = some v ∧ yNj yBK u v ∧ yCr μ.2.1 n p rl (10 * p) v := by
  have hn6 := h.2.1.1
  have hp7 := h.2.2.1.1
  have n1 : ¬ nI 1 = 0 := by decide
  have n0 : nI 0 = 0 := rfl
  have hst : ∀ {v}, yNj yBK u v → zSt n p yr tx rl tp c v ∧ zDt μ.2.1 v.2.1 ∧ yCv (zCan μ.2.1) (yMu μ.2.1) n p v.2.1 := by
    intro v hv
    have e6 : ∀ k, v.2.1 6 k = u.2.1 6 k := fun k => hv.2.2.2 6 k (by unfold yBK; omega)
    have e8 : ∀ k, v.2.1 8 k = u.2.1 8 k := fun k => hv.2.2.2 8 k (by unfold yBK; omega)
    refine ⟨zSt_ag hu (yNj_ag hv (fun a k x y => by unfold zess at y; unfold yBK at x; omega)), fun a k z => by rw [hv.2.2.2 a k (by unfold yBK; omega), hd a k z], hc.1, hc.2.1, ?_, fun S hS => by rw [e8]; exact hc.2.2.2 S hS⟩
    obtain ⟨mb, m1, m2, m3⟩ := hc.2.2.1
    exact ⟨mb, m1, by rw [e6]; exact m2, m3⟩
  have hsmall : ∀ k, k ≤ 10 * p → yCt μ.2.1 n p k ≤ 42 := by
    intro k hk
    have h1 := zct_mn (P := yIs μ.2.1 n p) hk
    have h2 := yCt_10 (e := μ.2.1) (p := p) hn6 p
    unfold yCt at *
    omega
  unfold F_X_offerLessons
  refine fix2_p p (fun i v x => yNj yBK u v ∧ x = nI i ∧ yCr μ.2.1 n p rl (10 * i) v) (fun o => ∃ v, o = some v ∧ yNj yBK u v ∧ yCr μ.2.1 n p rl (10 * p) v) ?_ ?_ (zFU_lt (by omega)) ⟨yNj_rf hu.1, rfl, h0, fun j hj => absurd hj (Nat.not_lt_zero j)⟩
  · rintro r i v x hi ⟨hv, rfl, hcr⟩
    obtain ⟨h1, hd1, hc1⟩ := hst hv
    have hi7 : i < 7 := by omega
    rw [gI_0 h1.1, zb_some, h1.2.2.1.2.1, if_neg (show ¬ nI p ≤ nI i by rw [nI_leI (by omega) (by omega)]; omega)]
    left
    refine fix2_p n (fun q v x => yNj yBK u v ∧ x = nI q ∧ yCr μ.2.1 n p rl (10 * i + q) v) (fun o => ∃ y0 y1, (yNj yBK u y0 ∧ y1 = nI (i + 1) ∧ yCr μ.2.1 n p rl (10 * (i + 1)) y0) ∧ o = r y0 y1) ?_ ?_ (zFU_lt (by omega)) ⟨hv, rfl, hcr⟩
    · rintro r2 q v x hq ⟨hv, rfl, hcr⟩
      obtain ⟨h2, hd2, hc2⟩ := hst hv
      have hq6 : q < 6 := by omega
      have hkd : (10 * i + q) / 10 = i := by omega
      have hkm : (10 * i + q) % 10 = q := by omega
      have hb := (h2.2.2.2.2.2.1 i hi7).1
      have hba := X_isBarred h2.1 hi7 hq6 hb.1.2 hb.1.1
      rw [(hb.2 q hq6).2] at hba
      have e83 : (fun q => v.2.1 83 (6 * i + q)) q = μ.2.1 83 (6 * i + q) := hd2 83 _ (by omega)
      rw [e83] at hba
      have hcan := can_X h2 hi hq
      rw [zCan_c hd2] at hcan
      have no : yIs μ.2.1 n p (10 * i + q) = false → yCr μ.2.1 n p rl (10 * i + q + 1) v := fun z => yCr_no hcr (Nat.le_succ _) (fun j a b => by rw [show j = 10 * i + q by omega]; exact z)
      left
      rw [gR_0_0 h2.1, zb_some, gI_1 h2.1, zb_some, h2.2.1.2.1, if_neg (show ¬ nI n ≤ nI q by rw [nI_leI (by omega) (by omega)]; omega), gR_0_1 h2.1, zb_some, aR_3 h2.1 hi7, zb_some, fo_P h2.1 hi7, zb_some, hba, zb_some, show nI q + 1 = nI (q + 1) from nI_add q 1]
      by_cases hbar : μ.2.1 83 (6 * i + q) = 1
      · rw [decide_eq_true hbar, if_pos rfl, if_neg n1]
        exact ⟨v, nI (q + 1), ⟨hv, rfl, no (by unfold yIs; rw [hkd, hkm, decide_eq_true hbar]; simp)⟩, rfl⟩
      · rw [decide_eq_false hbar, if_neg (show ¬ false = true by decide), if_pos n0, zb_some, aR_3 h2.1 hi7, zb_some, zb_some, fo_P h2.1 hi7, zb_some, hcan, zb_some]
        cases hcc : zCan μ.2.1 i q
        · have hIs : yIs μ.2.1 n p (10 * i + q) = true := by
            unfold yIs
            rw [hkd, hkm, decide_eq_true hi, decide_eq_true hq, hcc, decide_eq_false hbar]; rfl
          have hct : yCt μ.2.1 n p (10 * i + q + 1) = yCt μ.2.1 n p (10 * i + q) + 1 := by
            unfold yCt
            rw [zct_s, hIs]; rfl
          have hs42 := hsmall (10 * i + q + 1) (by omega)
          obtain ⟨v2, w1, w2⟩ := X_cost h2 hi hq
          have hv2 : yNj yBK u v2 := yNj_tr hv (yNj_of (yNs_X w2) (fun a k z => by unfold yBK; omega))
          obtain ⟨h3, hd3, hc3⟩ := hst hv2
          obtain ⟨x, x1, x2⟩ := X_helped h3.1 hc3 hi hq
          have h130 : v2.2.1 13 0 = nI (yCt μ.2.1 n p (10 * i + q)) := (w2.2.2.2 13 0 (by omega) (by omega)).trans hcr.1
          have hof := X_offer1 (a := nI (10 * i + q)) (b := nI (zCost v.2.1 rl i q)) (x := x) h3.1 h130 (by omega)
          rw [if_pos (show b2 false = 0 from rfl), gR_0_10 h2.1, zb_some, zb_some, aR_3 h2.1 hi7, zb_some, fo_0 h2.1, zb_some, w1, zk_some, gR_0_8 h3.1, zb_some, fo_6 h3.1, zb_some, x1, zb_some, fo_13 h3.1, zb_some, show (10 : Int32) = nI 10 from rfl, pk_mul, nI_add, hof, zb_some]
          have ecost : zCost v.2.1 rl i q = zCost μ.2.1 rl i q := by unfold zCost; rw [zVal_c hd2]
          rw [ecost]
          generalize hIdx : yCt μ.2.1 n p (10 * i + q) = ix at *
          refine ⟨zuI (zuJ (zuI (zuI v2 14 ix (nI (10 * i + q))) 15 ix (nI (zCost μ.2.1 rl i q))) 16 ix x) 13 0 (nI (ix + 1)), nI (q + 1), ⟨yNj_w (yNj_J (yNj_w (yNj_w hv2 (Or.inr (Or.inr (by omega)))) (Or.inr (Or.inr (by omega))))) (Or.inr (Or.inr (by omega))), rfl, ?_, fun j hj hl => ?_⟩, rfl⟩
          · rw [uI_at, if_pos ⟨rfl, rfl⟩]
            show nI (ix + 1) = nI (yCt μ.2.1 n p (10 * i + q + 1))
            rw [hct]
          · by_cases z : j = 10 * i + q
            · subst z
              rw [hIdx, hkd, hkm]
              refine ⟨?_, ?_, fun S hS => ?_⟩
              · rw [uI_off (by omega), uJ_I]
                rw [uI_off (by omega), uI_at, if_pos ⟨rfl, rfl⟩]
              · rw [uI_off (by omega), uJ_I]
                rw [uI_at, if_pos ⟨rfl, rfl⟩]
              · have : (zuI (zuJ (zuI (zuI v2 14 ix (nI (10 * i + q))) 15 ix (nI (zCost μ.2.1 rl i q))) 16 ix x) 13 0 (nI (ix + 1))).2.2.1 16 ix = x := by
                  rw [uI_J, uJ_at, if_pos ⟨rfl, rfl⟩]
                rw [this, x2 S hS]
                unfold yhb
                rw [hkd, hkm]
            · have hjl : j < 10 * i + q := by omega
              obtain ⟨c1, c2, c3⟩ := hcr.2 j hjl hl
              have hlt := yCt_lt (n := n) (p := p) hjl hl
              rw [hIdx] at hlt
              refine ⟨?_, ?_, fun S hS => ?_⟩
              · rw [uI_off (by omega), uJ_I]
                rw [uI_off (by omega), uI_at, if_neg (by omega), w2.2.2.2 14 _ (by omega) (by omega)]
                exact c1
              · rw [uI_off (by omega), uJ_I]
                rw [uI_at, if_neg (by omega), uI_off (by omega), w2.2.2.2 15 _ (by omega) (by omega)]
                exact c2
              · have : (zuI (zuJ (zuI (zuI v2 14 ix (nI (10 * i + q))) 15 ix (nI (zCost μ.2.1 rl i q))) 16 ix x) 13 0 (nI (ix + 1))).2.2.1 16 (yCt μ.2.1 n p j) = v.2.2.1 16 (yCt μ.2.1 n p j) := by
                  rw [uI_J, uJ_at, if_neg (by omega), uI_J, uI_J, w2.2.2.1]
                rw [this]
                exact c3 S hS
        · rw [if_neg (show ¬ b2 true = 0 by decide)]
          exact ⟨v, nI (q + 1), ⟨hv, rfl, no (by unfold yIs; rw [hkd, hkm, hcc]; simp)⟩, rfl⟩
    · rintro r2 v x ⟨hv, rfl, hcr⟩
      obtain ⟨h2, hd2, hc2⟩ := hst hv
      refine ⟨v, nI (i + 1), ⟨hv, rfl, yCr_no hcr (by omega) (fun j a b => ?_)⟩, ?_⟩
      · unfold yIs
        rw [decide_eq_false (show ¬ j % 10 < n by omega)]; simp
      · rw [gR_0_0 h2.1, zb_some, gI_1 h2.1, zb_some, h2.2.1.2.1, if_pos (Int32.le_refl _), show nI i + 1 = nI (i + 1) from nI_add i 1]
  · rintro r v x ⟨hv, rfl, hcr⟩
    obtain ⟨h1, hd1, hc1⟩ := hst hv
    refine ⟨v, ?_, hv, hcr⟩
    rw [gI_0 h1.1, zb_some, h1.2.2.1.2.1, if_pos (Int32.le_refl _)]
end S
