-- ===== ring =====
/-- the next one in the ring -/
def yNx (p w : Nat) : Nat := if w + 1 < p then w + 1 else 0
def yNo (e : Nat → Nat → Int32) (p w : Nat) : Nat := (e 77 (yNx p w)).toNatClampNeg
/-- who can do what in the ring -/
def yRg (e : Nat → Nat → Int32) (p w q : Nat) : Bool := zCan e w q || (decide (q = yNo e p w) && !decide (e 83 (6 * w + q) = 1))
def yRi (e : Nat → Nat → Int32) (p i w q : Nat) : Bool := if w < i then yRg e p w q else zCan e w q
theorem yNx_lt {p w : Nat} (h : w < p) : yNx p w < p := by
  unfold yNx
  split <;> omega
section S
variable {n p yr tx rl tp c : Nat} {μ : zS}
theorem X_ringA (h : zSt n p yr tx rl tp c μ) {u : zS} (hu : yNs yBC μ u) {mb : Nat} (h60 : u.2.1 6 0 = nI mb) (hca : yCa (zCan μ.2.1) n p u.2.1) {α : Type} (K : zS → Option α) :
    ∃ v, (zfix2 (fun (r4 : zS → Int32 → Option α) (u5 : zS) (x6 : Int32) => (zgI u5 8 (some 0) 2).bind fun v7 => if v7 ≤ x6 then K u5 else ((zgR u5 8 (some 0) 1).bind fun v20 => (zgI u5 8 (some 0) 2).bind fun v21 => zjn1 (fun (j23 : Int32 → Option α) => if v21 ≤ (x6 + 1) then (j23 0) else (j23 (x6 + 1))) (fun (x22 : Int32) => (zaR u5 "PostsFilled$Person" v20 x22).bind fun v24 => (zgI u5 3 v24 1).bind fun v25 => (zgR u5 8 (some 0) 1).bind fun v26 => (zaR u5 "PostsFilled$Person" v26 x6).bind fun v27 => (zob u5 3 v27).bind fun q29 => (F_Person_isBarred u5 q29 v25).bind fun v28 => if v28 = 0 then ((zgR u5 8 (some 0) 8).bind fun v30 => (zgR u5 1 v30 1).bind fun v31 => (zaI u5 .int v31 v25).bind fun v32 => (zsI u5 v31 v25 (v32 ||| ((1 : Int32) <<< (x6 &&& 31)))).bind fun u33 => r4 u33 (x6 + 1)) else (r4 u5 (x6 + 1))))) zFU u 0) = K v ∧ yNs yBC μ v ∧ v.2.1 6 0 = nI mb ∧ yCa (yRg μ.2.1 p) n p v.2.1 := by
  have hn6 := h.2.1.1
  have hp7 := h.2.2.1.1
  have n1 : ¬ nI 1 = 0 := by decide
  have n0 : nI 0 = 0 := rfl
  have key : ∀ i, i ≤ p → yCa (yRi μ.2.1 p i) n p = yCa (yRi μ.2.1 p i) n p := fun _ _ => rfl
  refine fix2_p p (fun i v x => (yNs yBC μ v ∧ v.2.1 6 0 = nI mb) ∧ x = nI i ∧ yCa (yRi μ.2.1 p i) n p v.2.1) (fun o => ∃ v, o = K v ∧ yNs yBC μ v ∧ v.2.1 6 0 = nI mb ∧ yCa (yRg μ.2.1 p) n p v.2.1) ?_ ?_ (zFU_lt (by omega)) ⟨⟨hu, h60⟩, rfl, fun q hq => ?_⟩
  · rintro r i v x hi ⟨⟨hv, hv6⟩, rfl, hc⟩
    have h1 := zSt_ag h (yBC_ag (tx := tx) hv)
    have hd := yBC_dt hv
    have hi7 : i < 7 := by omega
    have hnx := yNx_lt hi
    obtain ⟨k1, k2, k3, k4, k5, -⟩ := h.2.2.1.2.2.2 (yNx p i) (by omega) hnx
    obtain ⟨l1, l2, l3, l4, l5, -⟩ := h1.2.2.1.2.2.2 (yNx p i) (by omega) hnx
    have ho : v.2.1 (18 + 3 * yNx p i) 1 = nI (yNo μ.2.1 p i) := by
      rw [l3, hd 77 _ (by omega)]
      exact k4.2
    have hon : yNo μ.2.1 p i < n := k5
    generalize hoo : yNo μ.2.1 p i = o at *
    have hbv := (h1.2.2.2.2.2.1 i hi7).1
    have hba := X_isBarred h1.1 hi7 (show o < 6 by omega) hbv.1.2 hbv.1.1
    rw [(hbv.2 o (by omega)).2] at hba
    have e83 : (fun q => v.2.1 83 (6 * i + q)) o = μ.2.1 83 (6 * i + o) := hd 83 _ (by omega)
    rw [e83] at hba
    left
    have hj : ∀ (k : Int32 → Option α), zjn1 (fun (j23 : Int32 → Option α) => if nI p ≤ nI (i + 1) then (j23 0) else (j23 (nI (i + 1)))) k = k (nI (yNx p i)) := by
      intro k
      rw [zjn1_eq]
      unfold yNx
      by_cases z : i + 1 < p
      · rw [if_neg (show ¬ nI p ≤ nI (i + 1) by rw [nI_leI (by omega) (by omega)]; omega), if_pos z]
      · rw [if_pos (show nI p ≤ nI (i + 1) by rw [nI_leI (by omega) (by omega)]; omega), if_neg z]; rfl
    rw [gI_0 h1.1, zb_some, h1.2.2.1.2.1, if_neg (show ¬ nI p ≤ nI i by rw [nI_leI (by omega) (by omega)]; omega), gR_0_1 h1.1, zb_some, zb_some, show nI i + 1 = nI (i + 1) from nI_add i 1, hj, aR_3 h1.1 (by omega), zb_some, gI_P h1.1 (by omega), zb_some, ho, zb_some, aR_3 h1.1 hi7, zb_some, fo_P h1.1 hi7, zb_some, hba, zb_some]
    -- the rows behind it
    have same : ∀ q, q < n → (q ≠ o ∨ μ.2.1 83 (6 * i + o) = 1) → yRg μ.2.1 p i q = zCan μ.2.1 i q := by
      intro q hq z
      unfold yRg
      rw [hoo]
      rcases z with z | z
      · rw [decide_eq_false z, Bool.false_and, Bool.or_false]
      · by_cases y : q = o
        · subst y; rw [decide_eq_true z]; simp
        · rw [decide_eq_false y, Bool.false_and, Bool.or_false]
    have nochange : ∀ q, q < n → (q ≠ o ∨ μ.2.1 83 (6 * i + o) = 1) → ymk (fun w => yRi μ.2.1 p (i + 1) w q) p = ymk (fun w => yRi μ.2.1 p i w q) p := by
      intro q hq z
      apply Nat.eq_of_testBit_eq
      intro j
      rw [ymk_tb, ymk_tb]
      congr 1
      unfold yRi
      by_cases hji : j = i
      · subst hji
        rw [if_pos (Nat.lt_succ_self j), if_neg (Nat.lt_irrefl j), same q hq z]
      · by_cases y : j < i
        · rw [if_pos (by omega), if_pos y]
        · rw [if_neg (by omega), if_neg y]
    by_cases hbar : μ.2.1 83 (6 * i + o) = 1
    · rw [decide_eq_true hbar, if_pos rfl, if_neg n1]
      refine ⟨v, nI (i + 1), ⟨⟨hv, hv6⟩, rfl, fun q hq => ?_⟩, rfl⟩
      rw [hc q hq]
      congr 1
      by_cases z : q < n
      · rw [if_pos z, if_pos z, nochange q z (Or.inr hbar)]
      · rw [if_neg z, if_neg z]
    · rw [decide_eq_false hbar, if_neg (show ¬ false = true by decide), if_pos n0, gR_0_8 h1.1, zb_some, gR_6_1 h1.1, zb_some, aI_7 h1.1 (by omega), zb_some, hc o (by omega), if_pos hon, n_shl1 (by omega), nI_or, sI_7 h1.1 (by omega), zb_some]
      have e1 : ymk (fun w => yRi μ.2.1 p i w o) p ||| 2 ^ i = ymk (fun w => yRi μ.2.1 p (i + 1) w o) p := by
        apply Nat.eq_of_testBit_eq
        intro j
        rw [tb_or, ymk_tb, ymk_tb]
        unfold yRi
        by_cases hji : j = i
        · subst hji
          have : yRg μ.2.1 p j o = true := by
            unfold yRg
            rw [hoo, decide_eq_true rfl, decide_eq_false hbar]; simp
          rw [decide_eq_true rfl, Bool.or_true, decide_eq_true hi, if_pos (Nat.lt_succ_self j), this]; rfl
        · rw [decide_eq_false hji, Bool.or_false]
          congr 1
          by_cases y : j < i
          · rw [if_pos y, if_pos (by omega)]
          · rw [if_neg y, if_neg (by omega)]
      rw [e1]
      refine ⟨zuI v 7 o (nI (ymk (fun w => yRi μ.2.1 p (i + 1) w o) p)), nI (i + 1), ⟨⟨yNs_w hv (Or.inr (Or.inl rfl)), by rw [uI_off (by omega)]; exact hv6⟩, rfl, fun q hq => ?_⟩, rfl⟩
      rw [uI_at]
      by_cases z : q = o
      · subst z; rw [if_pos ⟨rfl, rfl⟩, if_pos hon]
      · rw [if_neg (fun y => z y.2), hc q hq]
        congr 1
        by_cases z2 : q < n
        · rw [if_pos z2, if_pos z2, nochange q z2 (Or.inl z)]
        · rw [if_neg z2, if_neg z2]
  · rintro r v x ⟨⟨hv, hv6⟩, rfl, hc⟩
    have h1 := zSt_ag h (yBC_ag (tx := tx) hv)
    refine ⟨v, ?_, hv, hv6, fun q hq => ?_⟩
    · rw [gI_0 h1.1, zb_some, h1.2.2.1.2.1, if_pos (Int32.le_refl _)]
    · rw [hc q hq]
      congr 1
      by_cases z : q < n
      · rw [if_pos z, if_pos z]
        apply Nat.eq_of_testBit_eq
        intro j
        rw [ymk_tb, ymk_tb]
        unfold yRi
        by_cases y : j < p
        · rw [if_pos y]
        · rw [decide_eq_false y, Bool.false_and, Bool.false_and]
      · rw [if_neg z, if_neg z]
  · rw [hca q hq]
    rfl
theorem M_ringA (h : zSM n p yr rl μ) {u : zS} (hu : yNs (fun a _ => a = 91) μ u) (h91 : ∀ w, w < p → u.2.1 91 w = nI (ymk (zCan μ.2.1 w) n)) {α : Type} (K : zS → Option α) :
    ∃ v, (zfix2 (fun (r4 : zS → Int32 → Option α) (u5 : zS) (x6 : Int32) => (zgI u5 9 (some 73) 4).bind fun v7 => if v7 ≤ x6 then K u5 else ((zgR u5 9 (some 73) 6).bind fun v16 => (zgI u5 9 (some 73) 4).bind fun v17 => if v17 = 0 then none else (zaI u5 .int v16 ((x6 + 1) - (x6 + 1) / v17 * v17)).bind fun v18 => (zgR u5 9 (some 73) 32).bind fun v19 => (zaI u5 .int v19 x6).bind fun v20 => (zgR u5 9 (some 73) 13).bind fun v21 => (zaI u5 .boolean v21 (((6 : Int32) * x6) + v18)).bind fun v22 => if v22 = 0 then ((zsI u5 v19 x6 (v20 ||| ((1 : Int32) <<< (v18 &&& 31)))).bind fun u23 => r4 u23 (x6 + 1)) else ((zsI u5 v19 x6 (v20 ||| 0)).bind fun u24 => r4 u24 (x6 + 1)))) zFU u 0) = K v ∧ yNs (fun a _ => a = 91) μ v ∧ ∀ w, w < p → v.2.1 91 w = nI (ymk (yRg μ.2.1 p w) n) := by
  obtain ⟨hf, hn6, hp7, hy99, h1, h4, h10, h74, h75, hpe, htb, hrl, h17, htx⟩ := id h
  refine fix2_p p (fun i v x => yNs (fun a _ => a = 91) μ v ∧ x = nI i ∧ ∀ w, w < p → v.2.1 91 w = nI (if w < i then ymk (yRg μ.2.1 p w) n else ymk (zCan μ.2.1 w) n)) (fun o => ∃ v, o = K v ∧ yNs (fun a _ => a = 91) μ v ∧ ∀ w, w < p → v.2.1 91 w = nI (ymk (yRg μ.2.1 p w) n)) ?_ ?_ (zFU_lt (by omega)) ⟨hu, rfl, fun w hw => by rw [h91 w hw, if_neg (Nat.not_lt_zero w)]⟩
  · rintro r i v x hi ⟨hv, rfl, hc⟩
    have hd : zDt μ.2.1 v.2.1 := yNs_dt hv (fun a k x => by omega)
    have v4 : v.2.1 73 4 = nI p := (hd _ _ (by omega)).trans h4
    have hnx := yNx_lt hi
    obtain ⟨k2, k4, k5, -⟩ := hpe (yNx p i) hnx
    have ho : v.2.1 77 (yNx p i) = nI (yNo μ.2.1 p i) := by
      rw [hd 77 _ (by omega)]
      exact k4.2
    have hon : yNo μ.2.1 p i < n := k5
    generalize hoo : yNo μ.2.1 p i = o at *
    have hrem : nI (i + 1) - nI (i + 1) / nI p * nI p = nI (yNx p i) := by
      rw [q_rem (by omega) (by omega) (by omega)]
      congr 1
      unfold yNx
      by_cases z : i + 1 < p
      · rw [if_pos z, Nat.mod_eq_of_lt z]
      · rw [if_neg z, show i + 1 = p by omega, Nat.mod_self]
    have h6 : ((6 : Int32) * nI i) + nI o = nI (6 * i + o) := by rw [show (6 : Int32) = nI 6 from rfl, pk_mul, nI_add]
    have hb01 := (htb i (by omega) o (by omega)).2
    left
    rw [gI_73 hv.1, zb_some, v4, if_neg (show ¬ nI p ≤ nI i by rw [nI_leI (by omega) (by omega)]; omega), gR_73_6 hv.1, zb_some, zb_some, if_neg (show ¬ nI p = 0 from fun z => by have : p = 0 := nI_inj (by omega) (by decide) z; omega), show nI i + 1 = nI (i + 1) from nI_add i 1, hrem, aI_77 hv.1 (by omega), zb_some, ho, gR_73_32 hv.1, zb_some, aI_91 hv.1 (by omega), zb_some, hc i hi, if_neg (Nat.lt_irrefl i), gR_73_13 hv.1, zb_some, h6, aI_83 hv.1 (by omega), zb_some, hd 83 _ (by omega)]
    have upd : ∀ m, m = ymk (yRg μ.2.1 p i) n → ∀ w, w < p → (zuI v 91 i (nI m)).2.1 91 w = nI (if w < i + 1 then ymk (yRg μ.2.1 p w) n else ymk (zCan μ.2.1 w) n) := by
      intro m hm w hw
      rw [uI_at]
      by_cases z : w = i
      · subst z; rw [if_pos ⟨rfl, rfl⟩, if_pos (Nat.lt_succ_self w), hm]
      · rw [if_neg (fun y => z y.2), hc w hw]
        congr 1
        by_cases y : w < i
        · rw [if_pos y, if_pos (by omega)]
        · rw [if_neg y, if_neg (by omega)]
    rcases hb01 with b0 | b1
    · rw [if_pos b0, n_shl1 (by omega), nI_or, sI_91 hv.1 (by omega), zb_some]
      refine ⟨zuI v 91 i (nI (ymk (zCan μ.2.1 i) n ||| 2 ^ o)), nI (i + 1), ⟨yNs_w hv rfl, rfl, upd _ ?_⟩, rfl⟩
      apply Nat.eq_of_testBit_eq
      intro j
      rw [tb_or, ymk_tb, ymk_tb]
      unfold yRg
      rw [hoo]
      by_cases z : j = o
      · subst z
        rw [decide_eq_true rfl, Bool.or_true, decide_eq_true hon, decide_eq_false (show ¬ μ.2.1 83 (6 * i + j) = 1 by rw [b0]; decide)]; simp
      · rw [decide_eq_false z, Bool.or_false, Bool.false_and, Bool.or_false]
    · rw [if_neg (show ¬ μ.2.1 83 (6 * i + o) = 0 by rw [b1]; decide), show nI (ymk (zCan μ.2.1 i) n) ||| 0 = nI (ymk (zCan μ.2.1 i) n ||| 0) from nI_or _ 0, Nat.or_zero, sI_91 hv.1 (by omega), zb_some]
      refine ⟨zuI v 91 i (nI (ymk (zCan μ.2.1 i) n)), nI (i + 1), ⟨yNs_w hv rfl, rfl, upd _ ?_⟩, rfl⟩
      apply Nat.eq_of_testBit_eq
      intro j
      rw [ymk_tb, ymk_tb]
      unfold yRg
      rw [hoo]
      by_cases z : j = o
      · subst z
        rw [decide_eq_true b1]; simp
      · rw [decide_eq_false z, Bool.false_and, Bool.or_false]
  · rintro r v x ⟨hv, rfl, hc⟩
    have hd : zDt μ.2.1 v.2.1 := yNs_dt hv (fun a k x => by omega)
    refine ⟨v, ?_, hv, fun w hw => by rw [hc w hw, if_pos hw]⟩
    rw [gI_73 hv.1, zb_some, (hd 73 4 (by omega)).trans h4, if_pos (Int32.le_refl _)]
theorem K_ring (h : zSt n p yr tx rl tp c μ) : zOk c (fun u => F_X_ring u 0) (fun u => F_M_ring u 73) μ := by
  obtain ⟨hf, hP, hPe, hAs, hTa, hBa, hYr, hTp, hTx, hIm, hSh, hLt⟩ := id h
  have hn6 := hP.1
  have hp7 := hPe.1
  have h2p := p2_le hp7
  obtain ⟨u, x1, x2, x3, x4⟩ := X_look h
  obtain ⟨-, -, ⟨mb, m1, m2, m3⟩, -⟩ := x3
  -- how many may be away
  obtain ⟨m, g1, g2, g3⟩ := zstop (fun k => yfi (yPw (yRg μ.2.1 p) (yMu μ.2.1) n p k) (2 ^ p) ≠ none) (p + 1)
  have g2' : ∀ k, k < m → yfi (yPw (yRg μ.2.1 p) (yMu μ.2.1) n p k) (2 ^ p) = none := fun k hk => Classical.byContradiction (g2 k hk)
  have hX : ∃ v, F_X_ring μ 0 = some (yI ((m : Int) - 1), v) ∧ yNs yBC μ v := by
    unfold F_X_ring
    rw [fo_0 hf, zb_some, x1, zb_some]
    obtain ⟨v, v1, v2, v3, v4⟩ := X_ringA h x2 m2 x4 (fun u5 => (zgR u5 8 (some 0) 8).bind fun v8 => (zob u5 1 v8).bind fun q11 => (F_Cover_spread u5 q11 ).bind fun u10 => zfix2 (fun (r12 : Int32 → Int32 → Option (Int32 × zS)) (x13 : Int32) (x14 : Int32) => (zgI u10 8 (some 0) 2).bind fun v15 => if v15 < x14 then (some (x13, u10)) else ((zgR u10 8 (some 0) 8).bind fun v16 => (zgI u10 8 (some 0) 2).bind fun v17 => (zob u10 1 v16).bind fun q19 => (F_Cover_bears u10 q19 x14 v17).bind fun v18 => if v18 = 0 then (some (x13, u10)) else (r12 x14 (x14 + 1)))) zFU (-1) 0)
    obtain ⟨w, s1, s2, s3⟩ := X_spread (ab := fun q => if q < n then ymk (fun w => yRg μ.2.1 p w q) p else 0) v2.1 (by rw [v2.2.2.2 8 0 (by unfold yBC; omega)]; exact hLt.1) v4
    have hw : yNs yBC μ w := yNs_tr v2 (yNs_mo s2 (fun a k z => Or.inr (Or.inr z)))
    have hw6 : w.2.1 6 0 = nI mb := (s2.2.2.2 6 0 (by unfold yB8; omega)).trans v3
    have hw02 : w.2.1 0 2 = nI p := (hw.2.2.2 0 2 (by unfold yBC; omega)).trans hPe.2.1
    have hcv : yCv (yRg μ.2.1 p) (yMu μ.2.1) n p w.2.1 := ⟨hn6, hp7, ⟨mb, m1, hw6, m3⟩, fun S hS => by rw [s3 S hS, yCv_or hn6]⟩
    refine ⟨w, ?_, hw⟩
    refine v1.trans ?_
    simp only [gR_0_8 v2.1, zb_some, fo_6 v2.1, s1, gI_0 s2.1, hw02, gR_0_8 s2.1, fo_6 s2.1]
    have e0 : (-1 : Int32) = yI (((0 : Nat) : Int) - 1) := rfl
    rw [e0]
    refine fix2_t m (fun k => yI ((k : Int) - 1)) (fun k => nI k) ?_ ?_ (zFU_lt (by omega))
    · intro r k hk
      rw [if_neg (show ¬ nI p < nI k by rw [nI_ltI (by omega) (by omega)]; omega), X_bears (many := k) s2.1 hcv m1 hw6 m3 (by omega), g2' k hk, zb_some, if_neg (show ¬ b2 (none : Option Nat).isNone = 0 by decide), show nI k + 1 = nI (k + 1) from nI_add k 1]
      congr 1
      rw [show (((k + 1 : Nat) : Int) - 1) = (k : Int) by omega, yI_n]
    · intro r
      by_cases hm : m = p + 1
      · rw [if_pos (show nI p < nI m from nI_lt (by omega) (by omega))]
      · rw [if_neg (show ¬ nI p < nI m by rw [nI_ltI (by omega) (by omega)]; omega), X_bears (many := m) s2.1 hcv m1 hw6 m3 (by omega), zb_some]
        have := g3.resolve_left hm
        cases hy : yfi (yPw (yRg μ.2.1 p) (yMu μ.2.1) n p m) (2 ^ p) with
        | none => exact absurd hy this
        | some i => rw [if_pos (show b2 (some i : Option Nat).isNone = 0 from rfl)]
  obtain ⟨v, v1, v2⟩ := hX
  have hdv := yBC_dt v2
  have h1 := zSt_ag h (yBC_ag (tx := tx) v2)
  have hMv := zSM_of h1
  obtain ⟨u1, y1, y2, y3⟩ := M_fc h1
  have hM : ∃ w, F_M_ring v 73 = some (yI ((m : Int) - 1), w) ∧ yNs (fun a k => a = 91 ∨ yBW a k) v w := by
    unfold F_M_ring
    rw [fo_73 h1.1, zb_some, y1, zb_some]
    obtain ⟨w, w1, w2, w3⟩ := M_ringA hMv y2 y3 (fun u5 => zfix3 (fun (r8 : zS → Int32 → Int32 → Option (Int32 × zS)) (u9 : zS) (x10 : Int32) (x11 : Int32) => (zgI u9 9 (some 73) 4).bind fun v12 => if v12 < x11 then (some (x10, u9)) else ((zob u9 9 (some 73)).bind fun q15 => (F_M_worstOf u9 q15 x11).bind <| zk fun v13 u14 => if v13 < 0 then (r8 u14 x11 (x11 + 1)) else (some (x10, u14)))) zFU u5 (-1) 0)
    have hdw : zDt v.2.1 w.2.1 := yNs_dt w2 (fun a k x => by omega)
    have eR : yRg v.2.1 p = yRg μ.2.1 p := by
      funext w q
      unfold yRg yNo
      rw [zCan_c hdv, hdv 77 _ (by omega), hdv 83 _ (by omega)]
    rw [eR] at w3
    have hmf : yFm (yRg μ.2.1 p) (yMu μ.2.1) n p w.2.1 := by
      refine ⟨hn6, hp7, (hdw 73 1 (by omega)).trans h1.2.1.2.2.1, (hdw 73 4 (by omega)).trans h1.2.2.1.2.2.1, fun q hq => ?_, fun w' hw' => ⟨_, Nat.lt_of_lt_of_le ymk_lt (p2_6 hn6), w3 w' hw', fun q hq => ?_⟩⟩
      · rw [hdw 74 q (by omega), hdv 74 q (by omega)]
        exact b2_dec (hP.2.2.2.1 q (by omega))
      · rw [ymk_tb, decide_eq_true hq, Bool.true_and]
    have hw91 : yNs (fun a k => a = 91 ∨ yBW a k) v w := yNs_mo w2 (fun a k z => Or.inl z)
    rw [w1]
    have e0 : (-1 : Int32) = yI (((0 : Nat) : Int) - 1) := rfl
    rw [e0]
    refine fix3_p m (fun k z x y => yNs yBW w z ∧ x = yI ((k : Int) - 1) ∧ y = nI k) (fun o => ∃ w, o = some (yI ((m : Int) - 1), w) ∧ yNs (fun a k => a = 91 ∨ yBW a k) v w) ?_ ?_ (zFU_lt (by omega)) ⟨yNs_rf w2.1, rfl, rfl⟩
    · rintro r k z x y hk ⟨hz, rfl, rfl⟩
      have hmz := yFm_W hz hmf
      obtain ⟨z2, r1, r2⟩ := M_worst (many := k) hz.1 hmz (by omega)
      left
      refine ⟨z2, yI (((k + 1 : Nat) : Int) - 1), nI (k + 1), ⟨yNs_tr hz r2, rfl, rfl⟩, ?_⟩
      rw [gI_73 hz.1, zb_some, hmz.2.2.2.1, if_neg (show ¬ nI p < nI k by rw [nI_ltI (by omega) (by omega)]; omega), fo_73 hz.1, zb_some, r1, zk_some, if_pos ((yfv_neg (by omega)).mpr (g2' k hk)), show nI k + 1 = nI (k + 1) from nI_add k 1]
      congr 1
      rw [show (((k + 1 : Nat) : Int) - 1) = (k : Int) by omega, yI_n]
    · rintro r z x y ⟨hz, rfl, rfl⟩
      have hmz := yFm_W hz hmf
      rw [gI_73 hz.1, zb_some, hmz.2.2.2.1]
      by_cases hm : m = p + 1
      · rw [if_pos (show nI p < nI m from nI_lt (by omega) (by omega))]
        exact ⟨z, rfl, yNs_tr hw91 (yNs_mo hz (fun a k y => Or.inr y))⟩
      · obtain ⟨z2, r1, r2⟩ := M_worst (many := m) hz.1 hmz (by omega)
        rw [if_neg (show ¬ nI p < nI m by rw [nI_ltI (by omega) (by omega)]; omega), fo_73 hz.1, zb_some, r1, zk_some, if_neg (fun y => g3.resolve_left hm ((yfv_neg (by omega)).mp y))]
        exact ⟨z2, rfl, yNs_tr hw91 (yNs_mo (yNs_tr hz r2) (fun a k y => Or.inr y))⟩
  obtain ⟨w, w1, w2⟩ := hM
  exact zOk_ag h v1 (yBC_ag v2) w1 (yNs_ag w2 (fun a k x y => by unfold zess at y; unfold yBW at x; omega))
end S
