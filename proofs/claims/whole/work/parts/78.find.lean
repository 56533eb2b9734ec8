-- ===== what the reference finds first =====
/-- changed: some places alone -/
def yNs (P : Nat → Nat → Prop) (μ μ1 : zS) : Prop := zFr μ1 ∧ μ1.1 = μ.1 ∧ μ1.2.2 = μ.2.2 ∧ ∀ a k, ¬ P a k → μ1.2.1 a k = μ.2.1 a k
theorem yNs_rf {P : Nat → Nat → Prop} {u : zS} (h : zFr u) : yNs P u u := ⟨h, rfl, rfl, fun _ _ _ => rfl⟩
theorem yNs_tr {P : Nat → Nat → Prop} {u u' u2 : zS} (h : yNs P u u') (h2 : yNs P u' u2) : yNs P u u2 := ⟨h2.1, h2.2.1.trans h.2.1, h2.2.2.1.trans h.2.2.1, fun a k x => (h2.2.2.2 a k x).trans (h.2.2.2 a k x)⟩
theorem yNs_mo {P Q : Nat → Nat → Prop} {u u' : zS} (h : yNs P u u') (hPQ : ∀ a k, P a k → Q a k) : yNs Q u u' := ⟨h.1, h.2.1, h.2.2.1, fun a k x => h.2.2.2 a k (fun y => x (hPQ a k y))⟩
theorem yNs_w {P : Nat → Nat → Prop} {u u' : zS} {a j : Nat} {v : Int32} (h : yNs P u u') (hP : P a j) : yNs P u (zuI u' a j v) := ⟨fr_uI h.1, h.2.1, h.2.2.1, fun b k x => by
  rw [uI_at, if_neg (fun y => x (by rw [y.1, y.2]; exact hP))]
  exact h.2.2.2 b k x⟩
theorem yNs_M {u u' : zS} (h : zNM u u') : yNs (fun a _ => a = 89 ∨ a = 90) u u' := ⟨h.1, h.2.1, h.2.2.1, fun a k x => h.2.2.2 a k (fun y => x (Or.inl y)) (fun y => x (Or.inr y))⟩
theorem yNs_X {u u' : zS} (h : zNX u u') : yNs (fun a _ => a = 5 ∨ (42 ≤ a ∧ a ≤ 62 ∧ (a - 42) % 4 = 0)) u u' := ⟨h.1, h.2.1, h.2.2.1, fun a k x => h.2.2.2 a k (fun y => x (Or.inl y)) (fun y => x (Or.inr y))⟩
theorem yNs_ag {P : Nat → Nat → Prop} {tx : Nat} {u u' : zS} (h : yNs P u u') (hP : ∀ a k, P a k → ¬ zess tx a k) : zAg tx u u' := ⟨h.1, fun a k hk => h.2.2.2 a k (fun y => hP a k y hk)⟩
theorem yNs_dt {P : Nat → Nat → Prop} {u u' : zS} (h : yNs P u u') (hP : ∀ a k, P a k → ¬ ((74 ≤ a ∧ a ≤ 88) ∨ (a = 73 ∧ (k = 1 ∨ k = 4 ∨ k = 10 ∨ k = 16 ∨ k = 17)))) : zDt u.2.1 u'.2.1 := fun a k hk => h.2.2.2 a k (fun y => hP a k y hk)
def ymk (f : Nat → Bool) : Nat → Nat
  | 0 => 0
  | k + 1 => if f k = true then ymk f k ||| 2 ^ k else ymk f k
theorem ymk_tb {f : Nat → Bool} : ∀ {k j : Nat}, (ymk f k).testBit j = (decide (j < k) && f j)
  | 0, j => by
    show Nat.testBit 0 j = _
    rw [Nat.zero_testBit, decide_eq_false (Nat.not_lt_zero j), Bool.false_and]
  | k + 1, j => by
    have ih := ymk_tb (f := f) (k := k) (j := j)
    unfold ymk
    by_cases hj : j = k
    · subst hj
      rw [decide_eq_true (Nat.lt_succ_self j), Bool.true_and]
      by_cases hf : f j = true
      · rw [if_pos hf, tb_or, decide_eq_true rfl, Bool.or_true, hf]
      · rw [if_neg hf, ih, decide_eq_false (Nat.lt_irrefl j), Bool.false_and]
        cases h : f j with
        | false => rfl
        | true => exact absurd h hf
    · have e : decide (j < k + 1) = decide (j < k) := by
        by_cases h : j < k
        · rw [decide_eq_true h, decide_eq_true (by omega)]
        · rw [decide_eq_false h, decide_eq_false (by omega)]
      rw [e, ← ih]
      by_cases hf : f k = true
      · rw [if_pos hf, tb_or, decide_eq_false hj, Bool.or_false]
      · rw [if_neg hf]
theorem ymk_lt {f : Nat → Bool} : ∀ {k : Nat}, ymk f k < 2 ^ k
  | 0 => by show 0 < 2 ^ 0; decide
  | k + 1 => by
    have ih := ymk_lt (f := f) (k := k)
    have h2 : 2 ^ (k + 1) = 2 ^ k + 2 ^ k := by rw [Nat.pow_succ]; omega
    unfold ymk
    split
    · exact Nat.or_lt_two_pow (by omega) (Nat.pow_lt_pow_right (by decide) (Nat.lt_succ_self k))
    · omega
/-- what one at a post comes to -/
def yG (e : Nat → Nat → Int32) (rl w q : Nat) : Nat := zWell e rl w q * min (e 75 q).toNatClampNeg 99
theorem yG_le (e : Nat → Nat → Int32) (rl w q : Nat) : yG e rl w q ≤ 9801 := by
  have h1 := (zWell_e e rl w q).2
  have h2 : min (e 75 q).toNatClampNeg 99 ≤ 99 := Nat.min_le_right _ _
  unfold yG
  exact Nat.mul_le_mul h1 h2
def yMu (e : Nat → Nat → Int32) (q : Nat) : Bool := decide (e 74 q = 1)
theorem yG_c {e e' : Nat → Nat → Int32} (h : zDt e e') (rl w q : Nat) : yG e' rl w q = yG e rl w q := by
  unfold yG zWell
  rw [zVal_c h, h 75 q (by omega)]
theorem yMu_c {e e' : Nat → Nat → Int32} (h : zDt e e') : yMu e' = yMu e := by
  funext q
  unfold yMu
  rw [h 74 q (by omega)]
theorem zCan_f {e e' : Nat → Nat → Int32} (h : zDt e e') : zCan e' = zCan e := by
  funext w q
  exact zCan_c h w q
theorem yG_f {e e' : Nat → Nat → Int32} (h : zDt e e') (rl : Nat) : yG e' rl = yG e rl := by
  funext w q
  exact yG_c h rl w q
section S
variable {n p yr tx rl tp c : Nat} {μ : zS}
theorem p2_6 {n : Nat} (h : n ≤ 6) : 2 ^ n ≤ 64 := Nat.pow_le_pow_right (n := 2) (by decide) h
theorem M_fc (h : zSt n p yr tx rl tp c μ) : ∃ u, F_M_findCan μ 73 = some u ∧ yNs (fun a _ => a = 91) μ u ∧ ∀ w, w < p → u.2.1 91 w = nI (ymk (zCan μ.2.1 w) n) := by
  have hn6 := h.2.1.1
  have hp7 := h.2.2.1.1
  have hst : ∀ {u}, yNs (fun a _ => a = 91) μ u → zSt n p yr tx rl tp c u ∧ zCan u.2.1 = zCan μ.2.1 := by
    intro u hu
    refine ⟨zSt_ag h (yNs_ag hu (fun a k x y => by unfold zess at y; omega)), ?_⟩
    funext w q
    exact zCan_c (yNs_dt hu (fun a k x => by omega)) w q
  unfold F_M_findCan
  refine fix2_p p (fun i u x => yNs (fun a _ => a = 91) μ u ∧ x = nI i ∧ ∀ w, w < i → u.2.1 91 w = nI (ymk (zCan μ.2.1 w) n)) (fun o => ∃ u, o = some u ∧ yNs (fun a _ => a = 91) μ u ∧ ∀ w, w < p → u.2.1 91 w = nI (ymk (zCan μ.2.1 w) n)) ?_ ?_ (zFU_lt (by omega)) ⟨yNs_rf h.1, rfl, fun w hw => absurd hw (Nat.not_lt_zero w)⟩
  · rintro r i u x hi ⟨hu, rfl, hw⟩
    obtain ⟨h1, hc1⟩ := hst hu
    have hu2 : yNs (fun a _ => a = 91) μ (zuI u 91 i 0) := yNs_w hu rfl
    rw [gI_73 h1.1, zb_some, h1.2.2.1.2.2.1, if_neg (show ¬ nI p ≤ nI i by rw [nI_leI (by omega) (by omega)]; omega), gR_73_32 h1.1, zb_some, sI_91 h1.1 (by omega), zb_some]
    left
    refine fix2_p n (fun j u x => yNs (fun a _ => a = 91) μ u ∧ x = nI j ∧ (∀ w, w < i → u.2.1 91 w = nI (ymk (zCan μ.2.1 w) n)) ∧ u.2.1 91 i = nI (ymk (zCan μ.2.1 i) j)) (fun o => ∃ y0 y1, (yNs (fun a _ => a = 91) μ y0 ∧ y1 = nI (i + 1) ∧ ∀ w, w < i + 1 → y0.2.1 91 w = nI (ymk (zCan μ.2.1 w) n)) ∧ o = r y0 y1) ?_ ?_ (zFU_lt (by omega)) ⟨hu2, rfl, fun w hw2 => by rw [uI_at, if_neg (by omega)]; exact hw w hw2, by rw [uI_at, if_pos ⟨rfl, rfl⟩]; rfl⟩
    · rintro r2 j v y hj ⟨hv, rfl, hv1, hv2⟩
      obtain ⟨h2, hc2⟩ := hst hv
      have hcan := can_M h2 hi hj
      rw [hc2] at hcan
      left
      refine ⟨zuI v 91 i (nI (ymk (zCan μ.2.1 i) (j + 1))), nI (j + 1), ⟨yNs_w hv rfl, rfl, fun w hw2 => by rw [uI_at, if_neg (by omega)]; exact hv1 w hw2, by rw [uI_at, if_pos ⟨rfl, rfl⟩]⟩, ?_⟩
      rw [gI_73 h2.1, zb_some, h2.2.1.2.2.1, if_neg (show ¬ nI n ≤ nI j by rw [nI_leI (by omega) (by omega)]; omega), gR_73_32 h2.1, zb_some, aI_91 h2.1 (by omega), zb_some, fo_73 h2.1, zb_some, hcan, zb_some, hv2, show nI j + 1 = nI (j + 1) from nI_add j 1]
      have e1 : ymk (zCan μ.2.1 i) (j + 1) = if zCan μ.2.1 i j = true then ymk (zCan μ.2.1 i) j ||| 2 ^ j else ymk (zCan μ.2.1 i) j := rfl
      cases hcc : zCan μ.2.1 i j
      · rw [hcc, if_neg (show ¬ false = true by decide)] at e1
        rw [if_pos (show b2 false = 0 from rfl), show nI (ymk (zCan μ.2.1 i) j) ||| 0 = nI (ymk (zCan μ.2.1 i) j ||| 0) from nI_or _ 0, Nat.or_zero, sI_91 h2.1 (by omega), zb_some, e1]
      · rw [hcc, if_pos rfl] at e1
        rw [if_neg (show ¬ b2 true = 0 by decide), n_shl1 (by omega), nI_or, sI_91 h2.1 (by omega), zb_some, e1]
    · rintro r2 v y ⟨hv, rfl, hv1, hv2⟩
      obtain ⟨h2, hc2⟩ := hst hv
      refine ⟨v, nI (i + 1), ⟨hv, rfl, fun w hw2 => ?_⟩, ?_⟩
      · by_cases hwi : w = i
        · subst hwi; exact hv2
        · exact hv1 w (by omega)
      · rw [gI_73 h2.1, zb_some, h2.2.1.2.2.1, if_pos (Int32.le_refl _), show nI i + 1 = nI (i + 1) from nI_add i 1]
  · rintro r u x ⟨hu, rfl, hw⟩
    obtain ⟨h1, hc1⟩ := hst hu
    refine ⟨u, ?_, hu, hw⟩
    rw [gI_73 h1.1, zb_some, h1.2.2.1.2.2.1, if_pos (Int32.le_refl _)]
theorem M_fg (h : zSt n p yr tx rl tp c μ) : ∃ u, F_M_findComes μ 73 = some u ∧ yNs (fun a _ => a = 89 ∨ a = 90 ∨ a = 92) μ u ∧ yFg (yG μ.2.1 rl) n p u.2.1 := by
  have hn6 := h.2.1.1
  have hp7 := h.2.2.1.1
  have hst : ∀ {u}, yNs (fun a _ => a = 89 ∨ a = 90 ∨ a = 92) μ u → zSt n p yr tx rl tp c u ∧ zDt μ.2.1 u.2.1 := by
    intro u hu
    exact ⟨zSt_ag h (yNs_ag hu (fun a k x y => by unfold zess at y; omega)), yNs_dt hu (fun a k x => by omega)⟩
  unfold F_M_findComes
  refine fix2_p p (fun i u x => yNs (fun a _ => a = 89 ∨ a = 90 ∨ a = 92) μ u ∧ x = nI i ∧ ∀ w, w < i → ∀ q, q < n → u.2.1 92 (6 * w + q) = nI (yG μ.2.1 rl w q)) (fun o => ∃ u, o = some u ∧ yNs (fun a _ => a = 89 ∨ a = 90 ∨ a = 92) μ u ∧ yFg (yG μ.2.1 rl) n p u.2.1) ?_ ?_ (zFU_lt (by omega)) ⟨yNs_rf h.1, rfl, fun w hw => absurd hw (Nat.not_lt_zero w)⟩
  · rintro r i u x hi ⟨hu, rfl, hw⟩
    obtain ⟨h1, hc1⟩ := hst hu
    rw [gI_73 h1.1, zb_some, h1.2.2.1.2.2.1, if_neg (show ¬ nI p ≤ nI i by rw [nI_leI (by omega) (by omega)]; omega)]
    left
    refine fix2_p n (fun j u x => yNs (fun a _ => a = 89 ∨ a = 90 ∨ a = 92) μ u ∧ x = nI j ∧ (∀ w, w < i → ∀ q, q < n → u.2.1 92 (6 * w + q) = nI (yG μ.2.1 rl w q)) ∧ ∀ q, q < j → u.2.1 92 (6 * i + q) = nI (yG μ.2.1 rl i q)) (fun o => ∃ y0 y1, (yNs (fun a _ => a = 89 ∨ a = 90 ∨ a = 92) μ y0 ∧ y1 = nI (i + 1) ∧ ∀ w, w < i + 1 → ∀ q, q < n → y0.2.1 92 (6 * w + q) = nI (yG μ.2.1 rl w q)) ∧ o = r y0 y1) ?_ ?_ (zFU_lt (by omega)) ⟨hu, rfl, hw, fun q hq => absurd hq (Nat.not_lt_zero q)⟩
    · rintro r2 j v y hj ⟨hv, rfl, hv1, hv2⟩
      obtain ⟨h2, hc2⟩ := hst hv
      obtain ⟨v2, w1, w2⟩ := M_well h2 hi hj
      have w3 := yNs_tr hv (yNs_mo (Q := fun a _ => a = 89 ∨ a = 90 ∨ a = 92) (yNs_M w2) (fun a k x => by omega))
      obtain ⟨h3, hc3⟩ := hst w3
      have h6 : ((6 : Int32) * nI i) + nI j = nI (6 * i + j) := by rw [show (6 : Int32) = nI 6 from rfl, pk_mul, nI_add]
      have hva := h.2.1.2.2.2.2.2.2.2 j (by omega) hj
      have hval : v2.2.1 75 j = nI (min (μ.2.1 75 j).toNatClampNeg 99) := by
        rw [hc3 75 j (by omega), Nat.min_eq_left hva.2.1]
        exact hva.2.2
      left
      refine ⟨zuI v2 92 (6 * i + j) (nI (yG μ.2.1 rl i j)), nI (j + 1), ⟨yNs_w w3 (Or.inr (Or.inr rfl)), rfl, fun w hw2 q hq => ?_, fun q hq => ?_⟩, ?_⟩
      · rw [uI_at, if_neg (by omega), w2.2.2.2 92 _ (by omega) (by omega)]
        exact hv1 w hw2 q hq
      · rw [uI_at]
        by_cases hqj : q = j
        · subst hqj; rw [if_pos ⟨rfl, rfl⟩]
        · rw [if_neg (by omega), w2.2.2.2 92 _ (by omega) (by omega)]
          exact hv2 q (by omega)
      · rw [gI_73 h2.1, zb_some, h2.2.1.2.2.1, if_neg (show ¬ nI n ≤ nI j by rw [nI_leI (by omega) (by omega)]; omega), gR_73_33 h2.1, zb_some, fo_73 h2.1, zb_some, w1, zk_some, gR_73_3 h3.1, zb_some, aI_75 h3.1 (by omega), zb_some, h6, hval, pk_mul, sI_92 h3.1 (by omega), zb_some, show nI j + 1 = nI (j + 1) from nI_add j 1]
        unfold yG zWell
        rw [zVal_c hc2]
    · rintro r2 v y ⟨hv, rfl, hv1, hv2⟩
      obtain ⟨h2, hc2⟩ := hst hv
      refine ⟨v, nI (i + 1), ⟨hv, rfl, fun w hw2 => ?_⟩, ?_⟩
      · by_cases hwi : w = i
        · subst hwi; exact hv2
        · exact hv1 w (by omega)
      · rw [gI_73 h2.1, zb_some, h2.2.1.2.2.1, if_pos (Int32.le_refl _), show nI i + 1 = nI (i + 1) from nI_add i 1]
  · rintro r u x ⟨hu, rfl, hw⟩
    obtain ⟨h1, hc1⟩ := hst hu
    refine ⟨u, ?_, hu, hw⟩
    rw [gI_73 h1.1, zb_some, h1.2.2.1.2.2.1, if_pos (Int32.le_refl _)]
/-- behind the finding of who can -/
theorem yFm_of (h : zSt n p yr tx rl tp c μ) {u : zS} (hd : zDt μ.2.1 u.2.1) (h91 : ∀ w, w < p → u.2.1 91 w = nI (ymk (zCan μ.2.1 w) n)) : yFm (zCan μ.2.1) (yMu μ.2.1) n p u.2.1 := by
  have hn6 := h.2.1.1
  refine ⟨hn6, h.2.2.1.1, (hd 73 1 (by omega)).trans h.2.1.2.2.1, (hd 73 4 (by omega)).trans h.2.2.1.2.2.1, fun q hq => ?_, fun w hw => ⟨_, Nat.lt_of_lt_of_le ymk_lt (p2_6 hn6), h91 w hw, fun q hq => ?_⟩⟩
  · rw [hd 74 q (by omega)]
    exact b2_dec (h.2.1.2.2.2.1 q (by omega))
  · rw [ymk_tb, decide_eq_true hq, Bool.true_and]
/-- the best filling while some are away -/
theorem M_fb {C : Nat → Nat → Bool} {g : Nat → Nat → Nat} {mu : Nat → Bool} {u : zS} {U : Nat} (hg : ∀ w q, g w q ≤ 9801) (hf : zFr u) (hm : yFm C mu n p u.2.1) (hgm : yFg g n p u.2.1) (hU : U < 2 ^ p) :
    ∃ u', F_M_findBest u 73 (nI U) = some (b2 (decide (0 ≤ yD C g n p mu n (fun w => !U.testBit w))), u') ∧ yNs (fun a k => a = 93 ∨ a = 94 ∨ (a = 73 ∧ (k = 36 ∨ k = 37))) u u' ∧ (0 ≤ yD C g n p mu n (fun w => !U.testBit w) → u'.2.1 73 36 = yI (yD C g n p mu n (fun w => !U.testBit w)) ∧ ∀ j, j < n → u'.2.1 94 j = yL C g n p mu n (fun w => !U.testBit w) j) := by
  have f1 : zFr (zuI u 73 37 1) := fr_uI hf
  have f2 : zFr (zuI (zuI u 73 37 1) 73 36 (-1)) := fr_uI f1
  have o1 : ∀ a k, ¬ (a = 73 ∧ (k = 36 ∨ k = 37)) → (zuI (zuI u 73 37 1) 73 36 (-1)).2.1 a k = u.2.1 a k := fun a k h => by rw [uI_at, if_neg (by omega), uI_at, if_neg (by omega)]
  have hm1 : yFm C mu n p (zuI (zuI u 73 37 1) 73 36 (-1)).2.1 := yFm_c hm (o1 _ _ (by omega)) (o1 _ _ (by omega)) (fun k => o1 _ _ (by omega)) (fun k => o1 _ _ (by omega))
  have hg1 : yFg g n p (zuI (zuI u 73 37 1) 73 36 (-1)).2.1 := fun w hw q hq => (o1 _ _ (by omega)).trans (hgm w hw q hq)
  obtain ⟨u', r1, r2, r3, r4⟩ := M_best hg n 10 (zuI (zuI u 73 37 1) 73 36 (-1)) U 0 (-1) (Nat.le_refl n) (by have := hm.1; omega) f2 hm1 hg1 (by rw [uI_at, if_neg (by omega), uI_at, if_pos ⟨rfl, rfl⟩]) hU (by omega) (by omega) (by omega) (by rw [uI_at, if_pos ⟨rfl, rfl⟩]; rfl)
  refine ⟨u', ?_, ⟨r2.1, r2.2.1, r2.2.2.1, fun a k x => ?_⟩, fun hD => ?_⟩
  · rw [Nat.sub_self] at r1
    have r1' : GF 10 (zuI (zuI u 73 37 1) 73 36 (-1)) 73 0 (nI U) 0 = some (b2 (decide (0 ≤ yD C g n p mu n (fun w => !U.testBit w))), u') := r1
    unfold F_M_findBest
    rw [pZ_73 hf (Or.inr rfl), zb_some, pI_73 f1, zb_some, fo_73 f2, zb_some, r1', zk_some, b2_zz]
  · rw [r2.2.2.2 a k (by omega) (by omega) (by omega), o1 a k (by omega)]
  · rcases r4 with ⟨a1, a2, a3, a4⟩ | ⟨a1, -⟩
    · refine ⟨?_, fun j hj => ?_⟩
      · rw [a3]; congr 1; omega
      · rw [a4 j hj, if_neg (by omega)]
    · exact absurd ⟨hD, by omega⟩ a1
end S
