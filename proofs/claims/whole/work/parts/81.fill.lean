-- ===== fill =====
section H
variable {C : Nat → Nat → Bool} {g : Nat → Nat → Nat} {n p : Nat} {mu : Nat → Bool}
theorem yrm_cg {F F' : Nat → Bool} (h : ∀ w, w < p → F w = F' w) (j : Nat) : ∀ w, w < p → yrm F j w = yrm F' j w := fun w hw => by
  unfold yrm
  rw [h w hw]
theorem ywc_cg {F F' : Nat → Bool} {q : Nat} {D : (Nat → Bool) → Int} (h : ∀ w, w < p → F w = F' w) (hD : ∀ A B : Nat → Bool, (∀ w, w < p → A w = B w) → D A = D B) {w : Nat} (hw : w < p) : ywc F C g q D w = ywc F' C g q D w := by
  unfold ywc
  rw [h w hw, hD _ _ (yrm_cg h w)]
theorem yDj_cg {F F' : Nat → Bool} {q : Nat} {D : (Nat → Bool) → Int} (h : ∀ w, w < p → F w = F' w) (hD : ∀ A B : Nat → Bool, (∀ w, w < p → A w = B w) → D A = D B) : ∀ j, j ≤ p → yDj F C g mu q D j = yDj F' C g mu q D j ∧ yFj F C g mu q D j = yFj F' C g mu q D j := by
  intro j
  induction j with
  | zero =>
    intro _
    refine ⟨?_, rfl⟩
    unfold yDj
    rw [hD _ _ h]
  | succ j ih =>
    intro hj
    obtain ⟨i1, i2⟩ := ih (by omega)
    constructor
    · show (if yDj F C g mu q D j < ywc F C g q D j then ywc F C g q D j else yDj F C g mu q D j) = (if yDj F' C g mu q D j < ywc F' C g q D j then ywc F' C g q D j else yDj F' C g mu q D j)
      rw [i1, ywc_cg h hD (by omega)]
    · show (if yDj F C g mu q D j < ywc F C g q D j then j + 1 else yFj F C g mu q D j) = (if yDj F' C g mu q D j < ywc F' C g q D j then j + 1 else yFj F' C g mu q D j)
      rw [i1, i2, ywc_cg h hD (by omega)]
theorem yD_cg : ∀ (k : Nat) (F F' : Nat → Bool), (∀ w, w < p → F w = F' w) → yD C g n p mu k F = yD C g n p mu k F'
  | 0, _, _, _ => rfl
  | k + 1, F, F', h => (yDj_cg h (yD_cg k) p (Nat.le_refl p)).1
theorem yF_cg (k : Nat) (F F' : Nat → Bool) (h : ∀ w, w < p → F w = F' w) : yF C g n p mu k F = yF C g n p mu k F' := (yDj_cg h (yD_cg k) p (Nat.le_refl p)).2
theorem yL_cg : ∀ (k : Nat) (F F' : Nat → Bool), (∀ w, w < p → F w = F' w) → ∀ j, yL C g n p mu k F j = yL C g n p mu k F' j
  | 0, _, _, _, _ => rfl
  | k + 1, F, F', h, j => by
    show (if j = n - (k + 1) then nI (yF C g n p mu k F) - 1 else yL C g n p mu k (ynx F (yF C g n p mu k F)) j) = (if j = n - (k + 1) then nI (yF C g n p mu k F') - 1 else yL C g n p mu k (ynx F' (yF C g n p mu k F')) j)
    rw [yF_cg k F F' h]
    have : ∀ w, w < p → ynx F (yF C g n p mu k F') w = ynx F' (yF C g n p mu k F') w := by
      intro w hw
      unfold ynx
      split
      · exact h w hw
      · exact yrm_cg h _ w hw
    rw [yL_cg k _ _ this]
theorem yfl_cg : ∀ (k : Nat) (F F' : Nat → Bool), (∀ w, w < p → F w = F' w) → yfl C n p mu k F = yfl C n p mu k F'
  | k, F, F', h => by
    rw [Bool.eq_iff_iff, yfl_D (g := fun _ _ => 0), yfl_D (g := fun _ _ => 0), yD_cg k F F' h]
end H
def yBX (a k : Nat) : Prop := a = 5 ∨ (42 ≤ a ∧ a ≤ 62 ∧ (a - 42) % 4 = 0) ∨ (a = 9 ∧ k ≤ 1) ∨ a = 10
section S
variable {n p yr tx rl tp c : Nat} {μ : zS}
theorem X_gains {T : Nat} (h : zSt n p yr tx rl tp c μ) (hT : T < 2 ^ p) : ∃ u, F_X_lookAtGains μ 0 (nI T) = some u ∧ yNs yBX μ u ∧ yPm (zCan μ.2.1) (yG μ.2.1 rl) (yMu μ.2.1) n p T u.2.1 := by
  have hn6 := h.2.1.1
  have hp7 := h.2.2.1.1
  have hT7 : T < 128 := Nat.lt_of_lt_of_le hT (p2_le hp7)
  have hst : ∀ {u}, yNs yBX μ u → zSt n p yr tx rl tp c u ∧ zDt μ.2.1 u.2.1 := by
    intro u hu
    exact ⟨zSt_ag h (yNs_ag hu (fun a k x y => by unfold zess at y; unfold yBX at x; omega)), yNs_dt hu (fun a k x => by unfold yBX at x; omega)⟩
  have f1 : zFr (zuI μ 9 0 (nI n)) := fr_uI h.1
  have f2 : zFr (zuI (zuI μ 9 0 (nI n)) 9 1 (μ.2.1 1 1)) := fr_uI f1
  have hu0 : yNs yBX μ (zuI (zuI μ 9 0 (nI n)) 9 1 (μ.2.1 1 1)) := yNs_w (yNs_w (yNs_rf h.1) (Or.inr (Or.inr (Or.inl ⟨rfl, by decide⟩)))) (Or.inr (Or.inr (Or.inl ⟨rfl, by decide⟩)))
  have h90 : (zuI (zuI μ 9 0 (nI n)) 9 1 (μ.2.1 1 1)).2.1 9 0 = nI n := by rw [uI_at, if_neg (by omega), uI_at, if_pos ⟨rfl, rfl⟩]
  have h91 : (zuI (zuI μ 9 0 (nI n)) 9 1 (μ.2.1 1 1)).2.1 9 1 = μ.2.1 1 1 := by rw [uI_at, if_pos ⟨rfl, rfl⟩]
  unfold F_X_lookAtGains
  rw [gR_0_9 h.1, zb_some, gR_0_0 h.1, zb_some, gI_1 h.1, zb_some, h.2.1.2.1, pI_9 h.1, zb_some, gR_0_9 f1, zb_some, gR_0_0 f1, zb_some, gI_1 f1, zb_some, uI_off (by omega), pI_9 f1, zb_some]
  generalize zuI (zuI μ 9 0 (nI n)) 9 1 (μ.2.1 1 1) = u0 at *
  refine fix2_p n (fun q v x => (yNs yBX μ v ∧ v.2.1 9 0 = nI n ∧ v.2.1 9 1 = μ.2.1 1 1) ∧ x = nI q ∧ ∀ j, j < q → ∀ w, w < p → v.2.1 10 (7 * j + w) = if T.testBit w = true ∧ zCan μ.2.1 w j = true then nI (yG μ.2.1 rl w j) else (-1)) (fun o => ∃ u, o = some u ∧ yNs yBX μ u ∧ yPm (zCan μ.2.1) (yG μ.2.1 rl) (yMu μ.2.1) n p T u.2.1) ?_ ?_ (zFU_lt (by omega)) ⟨⟨hu0, h90, h91⟩, rfl, fun j hj => absurd hj (Nat.not_lt_zero j)⟩
  · rintro r q v x hq ⟨⟨hv, hv0, hv1⟩, rfl, hg⟩
    obtain ⟨h1, hc1⟩ := hst hv
    rw [gR_0_0 h1.1, zb_some, gI_1 h1.1, zb_some, h1.2.1.2.1, if_neg (show ¬ nI n ≤ nI q by rw [nI_leI (by omega) (by omega)]; omega)]
    left
    refine fix2_p p (fun i v x => (yNs yBX μ v ∧ v.2.1 9 0 = nI n ∧ v.2.1 9 1 = μ.2.1 1 1) ∧ x = nI i ∧ (∀ j, j < q → ∀ w, w < p → v.2.1 10 (7 * j + w) = if T.testBit w = true ∧ zCan μ.2.1 w j = true then nI (yG μ.2.1 rl w j) else (-1)) ∧ ∀ w, w < i → v.2.1 10 (7 * q + w) = if T.testBit w = true ∧ zCan μ.2.1 w q = true then nI (yG μ.2.1 rl w q) else (-1)) (fun o => ∃ y0 y1, ((yNs yBX μ y0 ∧ y0.2.1 9 0 = nI n ∧ y0.2.1 9 1 = μ.2.1 1 1) ∧ y1 = nI (q + 1) ∧ ∀ j, j < q + 1 → ∀ w, w < p → y0.2.1 10 (7 * j + w) = if T.testBit w = true ∧ zCan μ.2.1 w j = true then nI (yG μ.2.1 rl w j) else (-1)) ∧ o = r y0 y1) ?_ ?_ (zFU_lt (by omega)) ⟨⟨hv, hv0, hv1⟩, rfl, hg, fun w hw => absurd hw (Nat.not_lt_zero w)⟩
    · rintro r2 i v x hi ⟨⟨hv, hv0, hv1⟩, rfl, hg, hgi⟩
      obtain ⟨h2, hc2⟩ := hst hv
      have h7 : (nI q * 7) + nI i = nI (7 * q + i) := by rw [show (7 : Int32) = nI 7 from rfl, pk_mul, nI_add]; congr 1; omega
      have hcan := can_X h2 hi hq
      rw [zCan_c hc2] at hcan
      -- what is written
      have wr : ∀ (v3 : zS) (val : Int32), yNs yBX v v3 → v3.2.1 9 0 = v.2.1 9 0 → v3.2.1 9 1 = v.2.1 9 1 → (∀ k, v3.2.1 10 k = v.2.1 10 k) → (val = if T.testBit i = true ∧ zCan μ.2.1 i q = true then nI (yG μ.2.1 rl i q) else (-1)) → ((yNs yBX μ (zuI v3 10 (7 * q + i) val) ∧ (zuI v3 10 (7 * q + i) val).2.1 9 0 = nI n ∧ (zuI v3 10 (7 * q + i) val).2.1 9 1 = μ.2.1 1 1) ∧ nI (i + 1) = nI (i + 1) ∧ (∀ j, j < q → ∀ w, w < p → (zuI v3 10 (7 * q + i) val).2.1 10 (7 * j + w) = if T.testBit w = true ∧ zCan μ.2.1 w j = true then nI (yG μ.2.1 rl w j) else (-1)) ∧ ∀ w, w < i + 1 → (zuI v3 10 (7 * q + i) val).2.1 10 (7 * q + w) = if T.testBit w = true ∧ zCan μ.2.1 w q = true then nI (yG μ.2.1 rl w q) else (-1)) := by
        intro v3 val n1 n2 n3 n4 hval
        refine ⟨⟨yNs_w (yNs_tr hv n1) (Or.inr (Or.inr (Or.inr rfl))), by rw [uI_off (by omega), n2]; exact hv0, by rw [uI_off (by omega), n3]; exact hv1⟩, rfl, fun j hj w hw => ?_, fun w hw => ?_⟩
        · rw [uI_at, if_neg (by omega), n4]
          exact hg j hj w hw
        · rw [uI_at]
          by_cases hwi : w = i
          · subst hwi; rw [if_pos ⟨rfl, rfl⟩, hval]
          · rw [if_neg (by omega), n4]
            exact hgi w (by omega)
      left
      rw [gI_0 h2.1, zb_some, h2.2.2.1.2.1, if_neg (show ¬ nI p ≤ nI i by rw [nI_leI (by omega) (by omega)]; omega), zjn1_eq, show nI i + 1 = nI (i + 1) from nI_add i 1]
      by_cases hb : T.testBit i = true
      · rw [if_pos ((nI_bit (by omega) (by omega)).mpr hb), gR_0_1 h2.1, zb_some, aR_3 h2.1 (by omega), zb_some, gR_0_0 h2.1, zb_some, fo_P h2.1 (by omega), zb_some, hcan, zb_some]
        cases hcc : zCan μ.2.1 i q
        · rw [if_pos (show b2 false = 0 from rfl)]
          dsimp only
          refine ⟨zuI v 10 (7 * q + i) (-1), nI (i + 1), wr v (-1) (yNs_rf hv.1) rfl rfl (fun _ => rfl) (by rw [hcc, if_neg (fun z => by cases z.2)]), ?_⟩
          rw [gR_0_9 h2.1, zb_some, gR_9_2 h2.1, zb_some, if_pos rfl, h7, sI_10 h2.1 (by omega), zb_some]
        · rw [if_neg (show ¬ b2 true = 0 by decide)]
          dsimp only
          obtain ⟨v2, w1, w2⟩ := X_well h2 hi hq
          have w3 : yNs yBX v v2 := yNs_mo (yNs_X w2) (fun a k z => by unfold yBX; omega)
          obtain ⟨h3, hc3⟩ := hst (yNs_tr hv w3)
          have hva := h.2.1.2.2.2.2.2.2.2 q (by omega) hq
          have hval : v2.2.1 2 q = nI (min (μ.2.1 75 q).toNatClampNeg 99) := by
            rw [(h3.2.1.2.2.2.2.2.2.2 q (by omega) hq).1, hc3 75 q (by omega), Nat.min_eq_left hva.2.1]
            exact hva.2.2
          refine ⟨zuI v2 10 (7 * q + i) (nI (yG μ.2.1 rl i q)), nI (i + 1), wr v2 _ w3 (w2.2.2.2 _ _ (by omega) (by omega)) (w2.2.2.2 _ _ (by omega) (by omega)) (fun k => w2.2.2.2 _ _ (by omega) (by omega)) (by rw [if_pos ⟨hb, hcc⟩]), ?_⟩
          rw [gR_0_9 h2.1, zb_some, gR_9_2 h2.1, zb_some, if_neg (show ¬ (1 : Int32) = 0 by decide), zb_some, aR_3 h2.1 (by omega), zb_some, fo_0 h2.1, zb_some, w1, zk_some, gR_0_0 h3.1, zb_some, gR_1_2 h3.1, zb_some, aI_2 h3.1 (by omega), zb_some, h7, hval, pk_mul, sI_10 h3.1 (by omega), zb_some]
          unfold yG zWell
          rw [zVal_c hc2]
      · rw [if_neg (show ¬ ((nI T >>> (nI i &&& 31)) &&& 1) = 1 from fun z => hb ((nI_bit (by omega) (by omega)).mp z))]
        dsimp only
        refine ⟨zuI v 10 (7 * q + i) (-1), nI (i + 1), wr v (-1) (yNs_rf hv.1) rfl rfl (fun _ => rfl) (by rw [if_neg (fun z => hb z.1)]), ?_⟩
        rw [gR_0_9 h2.1, zb_some, gR_9_2 h2.1, zb_some, if_pos rfl, h7, sI_10 h2.1 (by omega), zb_some]
    · rintro r2 v x ⟨⟨hv, hv0, hv1⟩, rfl, hg, hgi⟩
      obtain ⟨h2, hc2⟩ := hst hv
      refine ⟨v, nI (q + 1), ⟨⟨hv, hv0, hv1⟩, rfl, fun j hj => ?_⟩, ?_⟩
      · by_cases hjq : j = q
        · subst hjq; exact hgi
        · exact hg j (by omega)
      · rw [gI_0 h2.1, zb_some, h2.2.2.1.2.1, if_pos (Int32.le_refl _), show nI q + 1 = nI (q + 1) from nI_add q 1]
  · rintro r v x ⟨⟨hv, hv0, hv1⟩, rfl, hg⟩
    obtain ⟨h1, hc1⟩ := hst hv
    refine ⟨v, ?_, hv, hn6, hp7, hT, hv0, ⟨(μ.2.1 1 1).toNatClampNeg, h.2.1.2.2.2.2.2.1.1, hv1.trans h.2.1.2.2.2.2.2.1.2, fun q hq => h.2.1.2.2.2.2.2.2.1 q (by omega)⟩, hg⟩
    rw [gR_0_0 h1.1, zb_some, gI_1 h1.1, zb_some, h1.2.1.2.1, if_pos (Int32.le_refl _)]
/-- all that the class's plan changes -/
def yBP (a k : Nat) : Prop := a = 5 ∨ (42 ≤ a ∧ a ≤ 62 ∧ (a - 42) % 4 = 0) ∨ (a = 9 ∧ k ≤ 1) ∨ a = 10 ∨ a = 11 ∨ a = 12
theorem yall_free {U : Nat} (hp7 : p ≤ 7) : ∀ w, w < p → (zmi (2 ^ p - 1) U).testBit w = !U.testBit w := by
  intro w hw
  rw [tb_mi (by have := p2_le hp7; have := p2_pos p; omega), tb_all, decide_eq_true hw, Bool.true_and]
theorem yall_lt {U : Nat} (hp7 : p ≤ 7) : zmi (2 ^ p - 1) U < 2 ^ p := by
  have h1 : zmi (2 ^ p - 1) U ≤ 2 ^ p - 1 := Nat.and_le_left
  have := p2_pos p
  omega
theorem X_plan {U : Nat} (h : zSt n p yr tx rl tp c μ) (hU : U < 2 ^ p) : ∃ u, F_X_planWithout μ 0 (nI U) = some (yI (yD (zCan μ.2.1) (yG μ.2.1 rl) n p (yMu μ.2.1) n (fun w => !U.testBit w)), u) ∧ yNs yBP μ u ∧ (0 ≤ yD (zCan μ.2.1) (yG μ.2.1 rl) n p (yMu μ.2.1) n (fun w => !U.testBit w) → ∀ j, j < n → u.2.1 12 j = yL (zCan μ.2.1) (yG μ.2.1 rl) n p (yMu μ.2.1) n (fun w => !U.testBit w) j) := by
  have hn6 := h.2.1.1
  have hp7 := h.2.2.1.1
  have h2p := p2_le hp7
  have h2q := p2_pos p
  have hg := yG_le μ.2.1 rl
  obtain ⟨u1, a1, a2, a3⟩ := X_gains h (yall_lt (U := U) hp7)
  obtain ⟨u2, b1, b2, b3⟩ := X_reckon (m := 0) hg a2.1 a3 (by decide)
  obtain ⟨u3, c1, c2, c3⟩ := X_lay hg b2.1 (yPm_11 b2 a3) b3
  have e1 := yD_cg (C := zCan μ.2.1) (g := yG μ.2.1 rl) (n := n) (mu := yMu μ.2.1) n _ _ (yall_free (U := U) hp7)
  have e2 := yL_cg (C := zCan μ.2.1) (g := yG μ.2.1 rl) (n := n) (mu := yMu μ.2.1) n _ _ (yall_free (U := U) hp7)
  rw [e1] at c1 c3
  refine ⟨u3, ?_, yNs_tr (yNs_tr (yNs_mo a2 (fun a k z => by unfold yBX at z; unfold yBP; omega)) (yNs_mo b2 (fun a k z => by unfold yB11 at z; unfold yBP; omega))) (yNs_mo c2 (fun a k z => by unfold yB12 at z; unfold yBP; omega)), fun z j hj => by rw [c3 z j hj, e2]⟩
  unfold F_X_planWithout
  rw [fo_0 h.1, zb_some, X_every h.1 h.2.2.1.2.1 hp7, zb_some, zb_some, nI_mi (by omega) (by omega), a1, zb_some, gR_0_9 a2.1, zb_some, fo_9 a2.1, zb_some, show (0 : Int32) = nI 0 from rfl, b1, zb_some, gR_0_9 b2.1, zb_some, fo_9 b2.1, zb_some, c1, zk_some]
/-- all that the reference's finding of the best changes -/
def yBM (a k : Nat) : Prop := (89 ≤ a ∧ a ≤ 94) ∨ (a = 73 ∧ (k = 36 ∨ k = 37))
theorem M_plan {U : Nat} (h : zSt n p yr tx rl tp c μ) (hU : U < 2 ^ p) : ∃ u1 u2 u3, F_M_findCan μ 73 = some u1 ∧ zFr u1 ∧ F_M_findComes u1 73 = some u2 ∧ zFr u2 ∧ F_M_findBest u2 73 (nI U) = some (b2 (decide (0 ≤ yD (zCan μ.2.1) (yG μ.2.1 rl) n p (yMu μ.2.1) n (fun w => !U.testBit w))), u3) ∧ yNs yBM μ u3 ∧ (0 ≤ yD (zCan μ.2.1) (yG μ.2.1 rl) n p (yMu μ.2.1) n (fun w => !U.testBit w) → u3.2.1 73 36 = yI (yD (zCan μ.2.1) (yG μ.2.1 rl) n p (yMu μ.2.1) n (fun w => !U.testBit w)) ∧ ∀ j, j < n → u3.2.1 94 j = yL (zCan μ.2.1) (yG μ.2.1 rl) n p (yMu μ.2.1) n (fun w => !U.testBit w) j) := by
  obtain ⟨u1, a1, a2, a3⟩ := M_fc h
  have hd1 : zDt μ.2.1 u1.2.1 := yNs_dt a2 (fun a k x => by omega)
  have h1 := zSt_ag h (yNs_ag (tx := tx) a2 (fun a k x y => by unfold zess at y; omega))
  obtain ⟨u2, b1, b2, b3⟩ := M_fg h1
  rw [yG_f hd1] at b3
  have hd2 : zDt μ.2.1 u2.2.1 := fun a k z => by rw [b2.2.2.2 a k (by omega), hd1 a k z]
  have hm := yFm_of h hd2 (fun w hw => by rw [b2.2.2.2 91 w (by omega)]; exact a3 w hw)
  obtain ⟨u3, c1, c2, c3⟩ := M_fb (yG_le μ.2.1 rl) b2.1 hm b3 hU
  refine ⟨u1, u2, u3, a1, a2.1, b1, b2.1, c1, ?_, c3⟩
  exact yNs_tr (yNs_tr (yNs_mo a2 (fun a k z => by unfold yBM; omega)) (yNs_mo b2 (fun a k z => by unfold yBM; omega))) (yNs_mo c2 (fun a k z => by unfold yBM; omega))
theorem K_fill (h : zSt n p yr tx rl tp c μ) (a b : Int32) : zOk c (fun u => F_X_fill u 0 a b) (fun u => F_M_fill u 73 a b) μ := by
  obtain ⟨hf, hP, hPe, hAs, hTa, hBa, hYr, hTp, hTx, hIm, hSh, hLt⟩ := id h
  have hn6 := hP.1
  have hp7 := hPe.1
  have n1 : ¬ nI 1 = 0 := by decide
  have n0 : nI 0 = 0 := rfl
  have h2p := p2_le hp7
  have h2q := p2_pos p
  rcases zcase a (n := 2 ^ p) (by omega) with ⟨U, hU, rfl⟩ | ha
  · have eU := zc_lt hU (show 2 ^ p < 2 ^ 31 by omega)
    obtain ⟨u, x1, x2, x3⟩ := X_plan h hU
    have hag : zAg tx μ u := yNs_ag x2 (fun a k x y => by unfold zess at y; unfold yBP at x; omega)
    have h1 := zSt_ag h hag
    have hd : zDt μ.2.1 u.2.1 := yNs_dt x2 (fun a k x => by unfold yBP at x; omega)
    obtain ⟨u1, u2, u3, y1, y1f, y2, y2f, y3, y4, y5⟩ := M_plan h1 hU
    have hag2 : zAg tx u u3 := yNs_ag y4 (fun a k x y => by unfold zess at y; unfold yBM at x; omega)
    rw [zCan_f hd, yG_f hd, yMu_c hd] at y3 y5
    generalize hDD : yD (zCan μ.2.1) (yG μ.2.1 rl) n p (yMu μ.2.1) n (fun w => !U.testBit w) = D at *
    have hDl : D < 2 ^ 31 := by rw [← hDD]; exact yDlt (yG_le μ.2.1 rl) hn6 n (Nat.le_refl n) _
    have hXw : F_X_isCrewSet μ 0 (nI U) = some (nI 1) := by rw [X_crew hf hPe.2.1 hp7, if_pos eU]
    have hMw : F_M_areAway u 73 (nI U) = some (nI 1) := by rw [M_away h1.1 h1.2.2.1.2.2.1 hp7, if_pos eU]
    by_cases hb : b = (-1)
    · by_cases hD : D < 0
      · refine zOk_ag h (v := -3) (μ1 := u) (μ2 := u3) ?_ hag ?_ hag2
        · unfold F_X_fill
          rw [fo_0 hf, zb_some, hXw, zb_some, if_neg n1, if_pos hb, zb_some, x1, zk_some, if_pos ((yI_1 hDl).mpr hD)]
        · unfold F_M_fill
          rw [fo_73 h1.1, zb_some, hMw, zb_some, if_neg n1, if_pos hb, zb_some, y1, zb_some, fo_73 y1f, zb_some, y2, zb_some, fo_73 y2f, zb_some, y3, zk_some, decide_eq_false (show ¬ 0 ≤ D by omega), if_pos (show b2 false = 0 from rfl)]
      · refine zOk_ag h (v := yI D) (μ1 := u) (μ2 := u3) ?_ hag ?_ hag2
        · unfold F_X_fill
          rw [fo_0 hf, zb_some, hXw, zb_some, if_neg n1, if_pos hb, zb_some, x1, zk_some, if_neg (fun z => hD ((yI_1 hDl).mp z)), if_pos hb]
        · unfold F_M_fill
          rw [fo_73 h1.1, zb_some, hMw, zb_some, if_neg n1, if_pos hb, zb_some, y1, zb_some, fo_73 y1f, zb_some, y2, zb_some, fo_73 y2f, zb_some, y3, zk_some, decide_eq_true (show 0 ≤ D by omega), if_neg (show ¬ b2 true = 0 by decide), if_pos hb, gI_73 y4.1, zb_some, (y5 (by omega)).1]
    · rcases zcase b (n := n) (by omega) with ⟨q, hq, rfl⟩ | hb2
      · have eq := zc_lt hq (show n < 2 ^ 31 by omega)
        have hXh : F_Office_has μ 1 (nI q) = some (nI 1) := by rw [X_has hf hP.2.1, if_pos eq]
        have hMp : F_M_isPost u 73 (nI q) = some (nI 1) := by rw [M_isPost h1.1 h1.2.1.2.2.1 hn6, if_pos eq]
        by_cases hD : D < 0
        · refine zOk_ag h (v := -3) (μ1 := u) (μ2 := u3) ?_ hag ?_ hag2
          · unfold F_X_fill
            rw [fo_0 hf, zb_some, hXw, zb_some, if_neg n1, if_neg hb, gR_0_0 hf, zb_some, fo_1 hf, zb_some, hXh, zb_some, if_neg n1, zb_some, x1, zk_some, if_pos ((yI_1 hDl).mpr hD)]
          · unfold F_M_fill
            rw [fo_73 h1.1, zb_some, hMw, zb_some, if_neg n1, if_neg hb, zb_some, hMp, zb_some, if_neg n1, zb_some, y1, zb_some, fo_73 y1f, zb_some, y2, zb_some, fo_73 y2f, zb_some, y3, zk_some, decide_eq_false (show ¬ 0 ≤ D by omega), if_pos (show b2 false = 0 from rfl)]
        · refine zOk_ag h (v := yL (zCan μ.2.1) (yG μ.2.1 rl) n p (yMu μ.2.1) n (fun w => !U.testBit w) q) (μ1 := u) (μ2 := u3) ?_ hag ?_ hag2
          · unfold F_X_fill
            rw [fo_0 hf, zb_some, hXw, zb_some, if_neg n1, if_neg hb, gR_0_0 hf, zb_some, fo_1 hf, zb_some, hXh, zb_some, if_neg n1, zb_some, x1, zk_some, if_neg (fun z => hD ((yI_1 hDl).mp z)), if_neg hb, gR_0_9 h1.1, zb_some, gR_9_4 h1.1, zb_some, aI_12 h1.1 (by omega), zb_some, x3 (by omega) q hq]
          · unfold F_M_fill
            rw [fo_73 h1.1, zb_some, hMw, zb_some, if_neg n1, if_neg hb, zb_some, hMp, zb_some, if_neg n1, zb_some, y1, zb_some, fo_73 y1f, zb_some, y2, zb_some, fo_73 y2f, zb_some, y3, zk_some, decide_eq_true (show 0 ≤ D by omega), if_neg (show ¬ b2 true = 0 by decide), if_neg hb, gR_73_35 y4.1, zb_some, aI_94 y4.1 (by omega), zb_some, (y5 (by omega)).2 q hq]
      · refine zOk_same (v := -2) h ?_ ?_
        · unfold F_X_fill
          rw [fo_0 hf, zb_some, hXw, zb_some, if_neg n1, if_neg hb, gR_0_0 hf, zb_some, fo_1 hf, zb_some, X_has hf hP.2.1, if_neg hb2, zb_some, if_pos n0]
        · unfold F_M_fill
          rw [fo_73 hf, zb_some, M_away hf hPe.2.2.1 hp7, if_pos eU, zb_some, if_neg n1, if_neg hb, zb_some, M_isPost hf hP.2.2.1 hn6, if_neg hb2, zb_some, if_pos n0]
  · refine zOk_same (v := -2) h ?_ ?_
    · unfold F_X_fill
      rw [fo_0 hf, zb_some, X_crew hf hPe.2.1 hp7, if_neg ha, zb_some, if_pos n0]
    · unfold F_M_fill
      rw [fo_73 hf, zb_some, M_away hf hPe.2.2.1 hp7, if_neg ha, zb_some, if_pos n0]
end S
