-- ===== the reference's fills =====
def yFB (rec : zS → Nat → Int32 → Int32 → Int32 → Option (Int32 × zS)) (a1 a2 a3 : Int32) (r6 : zS → Int32 → Int32 → Option (Int32 × zS)) (u7 : zS) (x8 x9 : Int32) : Option (Int32 × zS) := (zgI u7 9 (some 73) 4).bind fun v10 => if v10 ≤ x9 then (zrz x8 (x8, u7)) else (if x9 < 0 then ((zgR u7 9 (some 73) 34).bind fun v11 => (zsI u7 v11 a1 x9).bind fun u12 => zjn1 (fun (j14 : Int32 → Option (Int32 × zS)) => if 0 ≤ x9 then (j14 (a2 ||| ((1 : Int32) <<< (x9 &&& 31)))) else (j14 a2)) (fun (x13 : Int32) => zjn1 (fun (j16 : Int32 → Option (Int32 × zS)) => if 0 ≤ x9 then ((zgR u12 9 (some 73) 33).bind fun v23 => (zaI u12 .int v23 (((6 : Int32) * x9) + a1)).bind fun v24 => j16 (a3 + v24)) else (j16 a3)) (fun (x15 : Int32) => (zob u12 9 (some 73)).bind fun q19 => (rec u12 q19 (a1 + 1) x13 x15).bind <| zk fun v17 u18 => zjn1 (fun (j21 : Int32 → Option (Int32 × zS)) => if x8 = 0 then (if v17 = 0 then (j21 0) else (j21 1)) else (j21 1)) (fun (x20 : Int32) => if x20 = 0 then (r6 u18 x20 (x9 + 1)) else ((zgI u18 9 (some 73) 37).bind fun v22 => if v22 = 0 then (some (1, u18)) else (r6 u18 x20 (x9 + 1))))))) else (if ((a2 >>> (x9 &&& 31)) &&& 1) = 1 then (r6 u7 x8 (x9 + 1)) else ((zgR u7 9 (some 73) 32).bind fun v25 => (zaI u7 .int v25 x9).bind fun v26 => if ((v26 >>> (a1 &&& 31)) &&& 1) = 0 then (r6 u7 x8 (x9 + 1)) else ((zgR u7 9 (some 73) 34).bind fun v27 => (zsI u7 v27 a1 x9).bind fun u28 => zjn1 (fun (j30 : Int32 → Option (Int32 × zS)) => if 0 ≤ x9 then (j30 (a2 ||| ((1 : Int32) <<< (x9 &&& 31)))) else (j30 a2)) (fun (x29 : Int32) => zjn1 (fun (j32 : Int32 → Option (Int32 × zS)) => if 0 ≤ x9 then ((zgR u28 9 (some 73) 33).bind fun v39 => (zaI u28 .int v39 (((6 : Int32) * x9) + a1)).bind fun v40 => j32 (a3 + v40)) else (j32 a3)) (fun (x31 : Int32) => (zob u28 9 (some 73)).bind fun q35 => (rec u28 q35 (a1 + 1) x29 x31).bind <| zk fun v33 u34 => zjn1 (fun (j37 : Int32 → Option (Int32 × zS)) => if x8 = 0 then (if v33 = 0 then (j37 0) else (j37 1)) else (j37 1)) (fun (x36 : Int32) => if x36 = 0 then (r6 u34 x36 (x9 + 1)) else ((zgI u34 9 (some 73) 37).bind fun v38 => if v38 = 0 then (some (1, u34)) else (r6 u34 x36 (x9 + 1))))))))))
/-- what the filling of posts reads of the memory -/
def yFm (C : Nat → Nat → Bool) (mu : Nat → Bool) (n p : Nat) (e : Nat → Nat → Int32) : Prop := n ≤ 6 ∧ p ≤ 7 ∧ e 73 1 = nI n ∧ e 73 4 = nI p ∧ (∀ q, q < n → e 74 q = b2 (mu q)) ∧ ∀ w, w < p → ∃ cm, cm < 64 ∧ e 91 w = nI cm ∧ ∀ q, q < n → cm.testBit q = C w q
theorem yFm_c {C : Nat → Nat → Bool} {mu : Nat → Bool} {n p : Nat} {e e' : Nat → Nat → Int32} (h : yFm C mu n p e) (h1 : e' 73 1 = e 73 1) (h4 : e' 73 4 = e 73 4) (h74 : ∀ k, e' 74 k = e 74 k) (h91 : ∀ k, e' 91 k = e 91 k) : yFm C mu n p e' := by
  obtain ⟨a1, a2, a3, a4, a5, a6⟩ := h
  refine ⟨a1, a2, h1.trans a3, h4.trans a4, fun q hq => (h74 q).trans (a5 q hq), fun w hw => ?_⟩
  obtain ⟨cm, b1, b2, b3⟩ := a6 w hw
  exact ⟨cm, b1, (h91 w).trans b2, b3⟩
theorem b2_zz {τ : Type} (b : Bool) (t : τ) : zrz (b2 b) t = some t := by cases b <;> rfl
section S
variable {C : Nat → Nat → Bool} {mu : Nat → Bool} {n p : Nat} {u u' : zS} {rec : zS → Nat → Int32 → Int32 → Int32 → Option (Int32 × zS)} {r : zS → Int32 → Int32 → Option (Int32 × zS)}
theorem M_fills_q {q : Nat} {a2 a3 : Int32} (hf : zFr u) (hm : yFm C mu n p u.2.1) (hq : q < n) : F_M_fills rec u 73 (nI q) a2 a3 = zfix3 (yFB rec (nI q) a2 a3) zFU u 0 (if mu q = true then 0 else (-1)) := by
  have hn6 := hm.1
  unfold F_M_fills
  rw [gI_73 hf, zb_some, hm.2.2.1, if_neg (show ¬ nI q = nI n from fun z => by have := nI_inj (by omega) (by omega) z; omega), gR_73_2 hf, zb_some, aI_74 hf (by omega), zb_some, hm.2.2.2.2.1 q hq, zjn1_eq]
  cases mu q
  · rw [if_pos (show b2 false = 0 from rfl), if_neg (show ¬ false = true by decide)]
    rfl
  · rw [if_neg (show ¬ b2 true = 0 by decide), if_pos (show true = true from rfl)]
    rfl
theorem yFB_end {a1 a2 a3 : Int32} {x : Bool} (hf : zFr u) (hp : u.2.1 73 4 = nI p) : yFB rec a1 a2 a3 r u (b2 x) (nI p) = some (b2 x, u) := by
  unfold yFB
  rw [gI_73 hf, zb_some, hp, if_pos (Int32.le_refl _), b2_zz]
theorem yFB_skip {q U w : Nat} {a3 : Int32} {x : Int32} (hf : zFr u) (hm : yFm C mu n p u.2.1) (hq : q < n) (hU : U < 128) (hw : w < p) (h : U.testBit w = true ∨ C w q = false) : yFB rec (nI q) (nI U) a3 r u x (nI w) = r u x (nI (w + 1)) := by
  have hn6 := hm.1
  have hp7 := hm.2.1
  unfold yFB
  rw [gI_73 hf, zb_some, hm.2.2.2.1, if_neg (show ¬ nI p ≤ nI w by rw [nI_leI (by omega) (by omega)]; omega), if_neg (show ¬ nI w < 0 from nI_lt0 (by omega)), show nI w + 1 = nI (w + 1) from nI_add w 1]
  by_cases h1 : U.testBit w = true
  · rw [if_pos ((nI_bit (by omega) (by omega)).mpr h1)]
  · obtain ⟨cm, c1, c2, c3⟩ := hm.2.2.2.2.2 w hw
    rw [if_neg (show ¬ ((nI U >>> (nI w &&& 31)) &&& 1) = 1 from fun z => h1 ((nI_bit (by omega) (by omega)).mp z)), gR_73_32 hf, zb_some, aI_91 hf (by omega), zb_some, c2, if_pos ((n_bit0 (by omega) (by omega)).mpr (by rw [c3 q hq]; exact h.resolve_left h1))]
theorem yFB_go {q U w : Nat} {a3 : Int32} {x v : Bool} (hf : zFr u) (hm : yFm C mu n p u.2.1) (hq : q < n) (hU : U < 128) (hw : w < p) (h1 : U.testBit w = false) (h2 : C w q = true) (hr : rec (zuI u 93 q (nI w)) 73 (nI (q + 1)) (nI (U ||| 2 ^ w)) (a3 + u.2.1 92 (6 * w + q)) = some (b2 v, u')) (hf' : zFr u') :
    yFB rec (nI q) (nI U) a3 r u (b2 x) (nI w) = if (x || v) = false then r u' 0 (nI (w + 1)) else if u'.2.1 73 37 = 0 then some (1, u') else r u' 1 (nI (w + 1)) := by
  have hn6 := hm.1
  have hp7 := hm.2.1
  obtain ⟨cm, c1, c2, c3⟩ := hm.2.2.2.2.2 w hw
  have hw0 : (0 : Int32) ≤ nI w := nI_nn (by omega)
  have f1 : zFr (zuI u 93 q (nI w)) := fr_uI hf
  have h6 : ((6 : Int32) * nI w) + nI q = nI (6 * w + q) := by rw [show (6 : Int32) = nI 6 from rfl, pk_mul, nI_add]
  unfold yFB
  rw [gI_73 hf, zb_some, hm.2.2.2.1, if_neg (show ¬ nI p ≤ nI w by rw [nI_leI (by omega) (by omega)]; omega), if_neg (show ¬ nI w < 0 from nI_lt0 (by omega)), show nI w + 1 = nI (w + 1) from nI_add w 1]
  rw [if_neg (show ¬ ((nI U >>> (nI w &&& 31)) &&& 1) = 1 from fun z => by have := (nI_bit (by omega) (by omega)).mp z; rw [h1] at this; cases this), gR_73_32 hf, zb_some, aI_91 hf (by omega), zb_some, c2, if_neg (show ¬ ((nI cm >>> (nI q &&& 31)) &&& 1) = 0 from fun z => by have := (n_bit0 (by omega) (by omega)).mp z; rw [c3 q hq, h2] at this; cases this)]
  rw [gR_73_34 hf, zb_some, sI_93 hf (by omega), zb_some, zjn1_eq, if_pos hw0, n_shl1 (by omega), nI_or]
  dsimp only
  rw [zjn1_eq, if_pos hw0, gR_73_33 f1, zb_some, h6, aI_92 f1 (by omega), zb_some, uI_off (by omega)]
  dsimp only
  rw [fo_73 f1, zb_some, show nI q + 1 = nI (q + 1) from nI_add q 1, hr, zk_some, zjn1_eq]
  cases x <;> cases v
  · simp only [Bool.or_self]
    rfl
  · rw [if_pos (show b2 false = 0 from rfl), if_neg (show ¬ b2 true = 0 by decide)]
    dsimp only
    rw [if_neg (show ¬ (1 : Int32) = 0 by decide), gI_73 hf', zb_some]
    rfl
  · rw [if_neg (show ¬ b2 true = 0 by decide)]
    dsimp only
    rw [if_neg (show ¬ (1 : Int32) = 0 by decide), gI_73 hf', zb_some]
    rfl
  · rw [if_neg (show ¬ b2 true = 0 by decide)]
    dsimp only
    rw [if_neg (show ¬ (1 : Int32) = 0 by decide), gI_73 hf', zb_some]
    rfl
theorem yFB_none {q U : Nat} {a3 : Int32} {v : Bool} (hf : zFr u) (hm : yFm C mu n p u.2.1) (hq : q < n) (hr : rec (zuI u 93 q (-1)) 73 (nI (q + 1)) (nI U) a3 = some (b2 v, u')) (hf' : zFr u') :
    yFB rec (nI q) (nI U) a3 r u 0 (-1) = if v = false then r u' 0 0 else if u'.2.1 73 37 = 0 then some (1, u') else r u' 1 0 := by
  have hn6 := hm.1
  have hp7 := hm.2.1
  have f1 : zFr (zuI u 93 q (-1)) := fr_uI hf
  unfold yFB
  rw [gI_73 hf, zb_some, hm.2.2.2.1, if_neg (show ¬ nI p ≤ (-1) from fun z => by rw [fa_le, nI_toInt (by omega), show (-1 : Int32).toInt = -1 by decide] at z; omega), if_pos (show (-1 : Int32) < 0 by decide)]
  rw [gR_73_34 hf, zb_some, sI_93 hf (by omega), zb_some, zjn1_eq, if_neg (show ¬ (0 : Int32) ≤ (-1) by decide)]
  dsimp only
  rw [zjn1_eq, if_neg (show ¬ (0 : Int32) ≤ (-1) by decide)]
  dsimp only
  rw [fo_73 f1, zb_some, show nI q + 1 = nI (q + 1) from nI_add q 1, hr, zk_some, zjn1_eq, if_pos rfl]
  cases v
  · rfl
  · rw [if_neg (show ¬ b2 true = 0 by decide)]
    dsimp only
    rw [if_neg (show ¬ (1 : Int32) = 0 by decide), gI_73 hf', zb_some]
    rfl
/-- changed: the trial alone -/
def yN93 (μ μ1 : zS) : Prop := zFr μ1 ∧ μ1.1 = μ.1 ∧ μ1.2.2 = μ.2.2 ∧ ∀ a k, a ≠ 93 → μ1.2.1 a k = μ.2.1 a k
theorem yN93_rf (h : zFr u) : yN93 u u := ⟨h, rfl, rfl, fun _ _ _ => rfl⟩
theorem yN93_tr {u2 : zS} (h : yN93 u u') (h2 : yN93 u' u2) : yN93 u u2 := ⟨h2.1, h2.2.1.trans h.2.1, h2.2.2.1.trans h.2.2.1, fun a k x => (h2.2.2.2 a k x).trans (h.2.2.2 a k x)⟩
theorem yN93_w {j : Nat} {v : Int32} (h : zFr u) : yN93 u (zuI u 93 j v) := ⟨fr_uI h, rfl, rfl, fun a k ha => uI_off ha⟩
theorem yFm_93 (h : yN93 u u') (hm : yFm C mu n p u.2.1) : yFm C mu n p u'.2.1 := yFm_c hm (h.2.2.2 _ _ (by omega)) (h.2.2.2 _ _ (by omega)) (fun k => h.2.2.2 _ _ (by omega)) (fun k => h.2.2.2 _ _ (by omega))
theorem yfree_or {U w : Nat} : (fun j => !(U ||| 2 ^ w).testBit j) = yrm (fun j => !U.testBit j) w := by
  funext j
  unfold yrm
  rw [tb_or]
  by_cases h : j = w
  · subst h; simp
  · rw [decide_eq_false h, Bool.or_false, show (j == w) = false by rw [beq_eq_false_iff_ne]; exact h, Bool.not_false, Bool.and_true]
/-- whether there is a filling -/
theorem M_fil : ∀ (k f : Nat) (u : zS) (U : Nat) (s : Int32), k ≤ n → k < f → zFr u → yFm C mu n p u.2.1 → u.2.1 73 37 = 0 → U < 2 ^ p → ∃ u', GF f u 73 (nI (n - k)) (nI U) s = some (b2 (yfl C n p mu k (fun w => !U.testBit w)), u') ∧ yN93 u u' := by
  intro k
  induction k with
  | zero =>
    intro f u U s hk hkf hf hm h37 hU
    obtain ⟨f, rfl⟩ : ∃ g, f = g + 1 := ⟨f - 1, by omega⟩
    refine ⟨u, ?_, yN93_rf hf⟩
    show F_M_fills (GF f) u 73 (nI n) (nI U) s = _
    unfold F_M_fills
    rw [gI_73 hf, zb_some, hm.2.2.1, if_pos rfl, gI_73 hf, zb_some, h37, if_pos rfl]
    rfl
  | succ k ih =>
    intro f u U s hk hkf hf hm h37 hU
    obtain ⟨f, rfl⟩ : ∃ g, f = g + 1 := ⟨f - 1, by omega⟩
    have hp7 := hm.2.1
    have hU7 : U < 128 := Nat.lt_of_lt_of_le hU (p2_le hp7)
    have hq : n - (k + 1) < n := by omega
    have hq1 : n - (k + 1) + 1 = n - k := by omega
    show ∃ u', F_M_fills (GF f) u 73 (nI (n - (k + 1))) (nI U) s = _ ∧ _
    rw [M_fills_q hf hm hq]
    generalize hF : (fun w => !U.testBit w) = F at *
    have hFw : ∀ w, F w = !U.testBit w := fun w => by rw [← hF]
    -- the loop from the first person on
    have loop : ∀ (N : Nat) (u1 : zS), p < N → yN93 u u1 → (mu (n - (k + 1)) = true ∨ yfl C n p mu k F = false) → ∃ u', zfix3 (yFB (GF f) (nI (n - (k + 1))) (nI U) s) N u1 0 0 = some (b2 (yfl C n p mu (k + 1) F), u') ∧ yN93 u u' := by
      intro N u1 hN h1 hno
      have hfl : yfl C n p mu (k + 1) F = yex (fun w => F w && C w (n - (k + 1)) && yfl C n p mu k (yrm F w)) p := by
        show ((!mu (n - (k + 1)) && yfl C n p mu k F) || _) = _
        rcases hno with z | z <;> rw [z] <;> simp
      rw [hfl]
      refine fix3_p p (fun i v x8 x9 => yN93 u v ∧ x8 = 0 ∧ x9 = nI i ∧ ∀ w, w < i → ¬ (F w && C w (n - (k + 1)) && yfl C n p mu k (yrm F w)) = true) (fun o => ∃ u', o = some (b2 (yex (fun w => F w && C w (n - (k + 1)) && yfl C n p mu k (yrm F w)) p), u') ∧ yN93 u u') ?_ ?_ hN ⟨h1, rfl, rfl, fun w hw => absurd hw (Nat.not_lt_zero w)⟩
      · rintro r i v x8 x9 hi ⟨h2, rfl, rfl, h3⟩
        have hmv := yFm_93 h2 hm
        by_cases hsk : U.testBit i = true ∨ C i (n - (k + 1)) = false
        · refine Or.inl ⟨v, 0, nI (i + 1), ⟨h2, rfl, rfl, fun w hw => ?_⟩, yFB_skip h2.1 hmv hq hU7 hi hsk⟩
          by_cases hwi : w = i
          · subst hwi
            rw [hFw]
            rcases hsk with z | z <;> rw [z] <;> simp
          · exact h3 w (by omega)
        · have z1 : U.testBit i = false := by cases z : U.testBit i with | false => rfl | true => exact absurd (Or.inl z) hsk
          have z2 : C i (n - (k + 1)) = true := by cases z : C i (n - (k + 1)) with | true => rfl | false => exact absurd (Or.inr z) hsk
          have w3 := yN93_w (j := n - (k + 1)) (v := nI i) h2.1
          obtain ⟨u3, r1, r2⟩ := ih f (zuI v 93 (n - (k + 1)) (nI i)) (U ||| 2 ^ i) (s + v.2.1 92 (6 * i + (n - (k + 1)))) (by omega) (by omega) w3.1 (yFm_93 w3 hmv) (by rw [w3.2.2.2 _ _ (by omega), h2.2.2.2 _ _ (by omega)]; exact h37) (or_p2 hU hi)
          rw [yfree_or, hF] at r1
          have h4 := yN93_tr h2 (yN93_tr w3 r2)
          have hgo := yFB_go (r := r) (x := false) h2.1 hmv hq hU7 hi z1 z2 (by rw [hq1]; exact r1) r2.1
          rw [Bool.false_or] at hgo
          cases hv : yfl C n p mu k (yrm F i) with
          | false =>
            rw [hv, if_pos rfl] at hgo
            refine Or.inl ⟨u3, 0, nI (i + 1), ⟨h4, rfl, rfl, fun w hw => ?_⟩, hgo⟩
            by_cases hwi : w = i
            · subst hwi; rw [hv]; simp
            · exact h3 w (by omega)
          | true =>
            rw [hv, if_neg (show ¬ true = false by decide), h4.2.2.2 73 37 (by omega), h37, if_pos rfl] at hgo
            refine Or.inr ⟨u3, ?_, h4⟩
            have : yex (fun w => F w && C w (n - (k + 1)) && yfl C n p mu k (yrm F w)) p = true := yex_i.mpr ⟨i, hi, by rw [hv, z2, hFw, z1]; rfl⟩
            rw [this]
            exact hgo
      · rintro r v x8 x9 ⟨h2, rfl, rfl, h3⟩
        refine ⟨v, ?_, h2⟩
        have : yex (fun w => F w && C w (n - (k + 1)) && yfl C n p mu k (yrm F w)) p = false := by
          cases z : yex (fun w => F w && C w (n - (k + 1)) && yfl C n p mu k (yrm F w)) p with
          | false => rfl
          | true =>
            obtain ⟨w, w1, w2⟩ := yex_i.mp z
            exact absurd w2 (h3 w w1)
        rw [this]
        exact yFB_end (x := false) h2.1 (yFm_93 h2 hm).2.2.2.1
    by_cases hmu : mu (n - (k + 1)) = true
    · rw [if_pos hmu]
      exact loop zFU u (zFU_lt (by omega)) (yN93_rf hf) (Or.inl hmu)
    · rw [if_neg hmu]
      have hmu' : mu (n - (k + 1)) = false := by cases z : mu (n - (k + 1)) with | false => rfl | true => exact absurd z hmu
      have w3 := yN93_w (j := n - (k + 1)) (v := (-1)) hf
      obtain ⟨u3, r1, r2⟩ := ih f (zuI u 93 (n - (k + 1)) (-1)) U s (by omega) (by omega) w3.1 (yFm_93 w3 hm) (by rw [w3.2.2.2 _ _ (by omega)]; exact h37) hU
      rw [hF] at r1
      have h4 := yN93_tr w3 r2
      have hgo := yFB_none (r := zfix3 (yFB (GF f) (nI (n - (k + 1))) (nI U) s) 99999) hf hm hq (by rw [hq1]; exact r1) r2.1
      show ∃ u', yFB (GF f) (nI (n - (k + 1))) (nI U) s (zfix3 (yFB (GF f) (nI (n - (k + 1))) (nI U) s) 99999) u 0 (-1) = _ ∧ _
      rw [hgo]
      cases hv : yfl C n p mu k F with
      | false =>
        rw [if_pos rfl]
        exact loop 99999 u3 (by omega) h4 (Or.inr hv)
      | true =>
        rw [if_neg (show ¬ true = false by decide), h4.2.2.2 73 37 (by omega), h37, if_pos rfl]
        refine ⟨u3, ?_, h4⟩
        have : yfl C n p mu (k + 1) F = true := by
          show ((!mu (n - (k + 1)) && yfl C n p mu k F) || _) = true
          rw [hmu', hv]; rfl
        rw [this]
        rfl
/-- whether there is a filling while some are away -/
theorem M_isF {U : Nat} (hf : zFr u) (hm : yFm C mu n p u.2.1) (hU : U < 2 ^ p) : ∃ u', F_M_isFilled u 73 (nI U) = some (b2 (yfl C n p mu n (fun w => !U.testBit w)), u') ∧ zFr u' ∧ u'.1 = u.1 ∧ u'.2.2 = u.2.2 ∧ ∀ a k, a ≠ 93 → ¬ (a = 73 ∧ k = 37) → u'.2.1 a k = u.2.1 a k := by
  have f1 : zFr (zuI u 73 37 0) := fr_uI hf
  have o1 : ∀ a k, ¬ (a = 73 ∧ k = 37) → (zuI u 73 37 0).2.1 a k = u.2.1 a k := fun a k h => by rw [uI_at, if_neg h]
  have hm1 : yFm C mu n p (zuI u 73 37 0).2.1 := yFm_c hm (o1 _ _ (by omega)) (o1 _ _ (by omega)) (fun k => o1 _ _ (by omega)) (fun k => o1 _ _ (by omega))
  obtain ⟨u', r1, r2⟩ := M_fil n 10 (zuI u 73 37 0) U 0 (Nat.le_refl n) (by have := hm.1; omega) f1 hm1 (by rw [uI_at, if_pos ⟨rfl, rfl⟩]) hU
  refine ⟨u', ?_, r2.1, r2.2.1, r2.2.2.1, fun a k h1 h2 => (r2.2.2.2 a k h1).trans (o1 a k h2)⟩
  rw [Nat.sub_self] at r1
  have r1' : GF 10 (zuI u 73 37 0) 73 0 (nI U) 0 = some (b2 (yfl C n p mu n (fun w => !U.testBit w)), u') := r1
  unfold F_M_isFilled
  rw [pZ_73 hf (Or.inl rfl), zb_some, fo_73 f1, zb_some, r1', zk_some, b2_zz]
end S
