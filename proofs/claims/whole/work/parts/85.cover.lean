-- ===== the class's cover =====
def yor (ab : Nat → Nat) (S : Nat) : Nat → Nat
  | 0 => 0
  | q + 1 => if S.testBit q = true then yor ab S q ||| ab q else yor ab S q
theorem yor_tb {ab : Nat → Nat} {S w : Nat} : ∀ {k : Nat}, (yor ab S k).testBit w = yex (fun q => S.testBit q && (ab q).testBit w) k
  | 0 => Nat.zero_testBit w
  | k + 1 => by
    show (if S.testBit k = true then yor ab S k ||| ab k else yor ab S k).testBit w = (yex (fun q => S.testBit q && (ab q).testBit w) k || (S.testBit k && (ab k).testBit w))
    rw [← yor_tb (k := k)]
    cases S.testBit k
    · rw [if_neg (by decide), Bool.false_and, Bool.or_false]
    · rw [if_pos rfl, Nat.testBit_or, Bool.true_and]
theorem yor_cg {ab : Nat → Nat} {S S' : Nat} : ∀ {k : Nat}, (∀ q, q < k → S.testBit q = S'.testBit q) → yor ab S k = yor ab S' k
  | 0, _ => rfl
  | k + 1, h => by
    show (if S.testBit k = true then yor ab S k ||| ab k else yor ab S k) = (if S'.testBit k = true then yor ab S' k ||| ab k else yor ab S' k)
    rw [h k (by omega), yor_cg (k := k) (fun q hq => h q (by omega))]
theorem yor_z {ab : Nat → Nat} {S m : Nat} : ∀ {k : Nat}, m ≤ k → (∀ q, m ≤ q → q < k → S.testBit q = false) → yor ab S k = yor ab S m
  | 0, h, _ => by rw [show m = 0 by omega]
  | k + 1, h, hz => by
    by_cases hm : m = k + 1
    · rw [hm]
    · show (if S.testBit k = true then yor ab S k ||| ab k else yor ab S k) = _
      rw [hz k (by omega) (by omega), if_neg (by decide)]
      exact yor_z (k := k) (by omega) (fun q h1 h2 => hz q h1 (by omega))
theorem yor_lt {ab : Nat → Nat} {S : Nat} (h : ∀ q, ab q < 128) : ∀ k, yor ab S k < 128
  | 0 => by show 0 < 128; decide
  | k + 1 => by
    have ih := yor_lt (S := S) h k
    show (if S.testBit k = true then yor ab S k ||| ab k else yor ab S k) < 128
    split
    · exact Nat.or_lt_two_pow (n := 7) ih (h k)
    · exact ih
theorem p2_add : ∀ q : Fin 6, ∀ l : Fin 32, l.1 < 2 ^ q.1 → 2 ^ q.1 + l.1 = l.1 ||| 2 ^ q.1 := by decide +kernel
def yB8 (a k : Nat) : Prop := a = 8 ∧ 1 ≤ k
theorem X_spread {u : zS} {ab : Nat → Nat} (hf : zFr u) (h0 : u.2.1 8 0 = 0) (ha : ∀ q, q < 6 → u.2.1 7 q = nI (ab q)) : ∃ u', F_Cover_spread u 6 = some u' ∧ yNs yB8 u u' ∧ ∀ S, S < 64 → u'.2.1 8 S = nI (yor ab S 6) := by
  unfold F_Cover_spread
  refine fix2_p 6 (fun q v x => yNs yB8 u v ∧ x = nI q ∧ ∀ S, S < 2 ^ q → v.2.1 8 S = nI (yor ab S 6)) (fun o => ∃ u', o = some u' ∧ yNs yB8 u u' ∧ ∀ S, S < 64 → u'.2.1 8 S = nI (yor ab S 6)) ?_ ?_ (zFU_lt (by omega)) ⟨yNs_rf hf, rfl, fun S hS => ?_⟩
  · rintro r q v x hq ⟨hv, rfl, hS⟩
    have h2q : 2 ^ q ≤ 32 := Nat.pow_le_pow_right (n := 2) (by decide) (show q ≤ 5 by omega)
    rw [if_neg (show ¬ (6 : Int32) ≤ nI q by rw [show (6 : Int32) = nI 6 from rfl, nI_leI (by omega) (by omega)]; omega), zlet_eq, n_shl1 (by omega)]
    left
    refine fix2_p (2 ^ q) (fun l v x => yNs yB8 u v ∧ x = nI l ∧ (∀ S, S < 2 ^ q → v.2.1 8 S = nI (yor ab S 6)) ∧ ∀ k, k < l → v.2.1 8 (2 ^ q + k) = nI (yor ab (2 ^ q + k) 6)) (fun o => ∃ y0 y1, (yNs yB8 u y0 ∧ y1 = nI (q + 1) ∧ ∀ S, S < 2 ^ (q + 1) → y0.2.1 8 S = nI (yor ab S 6)) ∧ o = r y0 y1) ?_ ?_ (zFU_lt (by omega)) ⟨hv, rfl, hS, fun k hk => absurd hk (Nat.not_lt_zero k)⟩
    · rintro r2 l v x hl ⟨hv, rfl, hS, hk⟩
      have hv7 : v.2.1 7 q = nI (ab q) := (hv.2.2.2 7 q (by unfold yB8; omega)).trans (ha q hq)
      have e1 : 2 ^ q + l = l ||| 2 ^ q := p2_add ⟨q, hq⟩ ⟨l, by omega⟩ hl
      have e2 : yor ab l 6 ||| ab q = yor ab (2 ^ q + l) 6 := by
        have z1 : yor ab l 6 = yor ab l q := yor_z (by omega) (fun j h1 _ => tb_lt hl h1)
        have z2 : yor ab (2 ^ q + l) 6 = yor ab (2 ^ q + l) (q + 1) := yor_z (by omega) (fun j h1 _ => by
          rw [e1, tb_or, tb_lt hl (by omega), decide_eq_false (by omega)]; rfl)
        rw [z1, z2]
        show _ = (if (2 ^ q + l).testBit q = true then yor ab (2 ^ q + l) q ||| ab q else yor ab (2 ^ q + l) q)
        rw [if_pos (by rw [e1, tb_or, decide_eq_true rfl, Bool.or_true])]
        rw [yor_cg (S := 2 ^ q + l) (S' := l) (k := q) (fun j hj => by rw [e1, tb_or, decide_eq_false (by omega), Bool.or_false])]
      left
      refine ⟨zuI v 8 (2 ^ q + l) (nI (yor ab (2 ^ q + l) 6)), nI (l + 1), ⟨yNs_w hv ⟨rfl, by have := p2_pos q; omega⟩, rfl, fun S h1 => ?_, fun k h1 => ?_⟩, ?_⟩
      · rw [uI_at, if_neg (by omega)]; exact hS S h1
      · rw [uI_at]
        by_cases hkl : k = l
        · subst hkl; rw [if_pos ⟨rfl, rfl⟩]
        · rw [if_neg (by omega)]; exact hk k (by omega)
      · rw [if_neg (show ¬ nI (2 ^ q) ≤ nI l by rw [nI_leI (by omega) (by omega)]; omega), gR_6_2 hv.1, zb_some, zb_some, aI_8 hv.1 (by omega), zb_some, gR_6_1 hv.1, zb_some, aI_7 hv.1 hq, zb_some, hS l hl, hv7, nI_or, nI_add, sI_8 hv.1 (by omega), zb_some, e2, show nI l + 1 = nI (l + 1) from nI_add l 1]
    · rintro r2 v x ⟨hv, rfl, hS, hk⟩
      refine ⟨v, nI (q + 1), ⟨hv, rfl, fun S h1 => ?_⟩, ?_⟩
      · by_cases h2 : S < 2 ^ q
        · exact hS S h2
        · have h3 : 2 ^ (q + 1) = 2 ^ q + 2 ^ q := by rw [Nat.pow_succ]; omega
          have := hk (S - 2 ^ q) (by omega)
          rw [show 2 ^ q + (S - 2 ^ q) = S by omega] at this
          exact this
      · rw [if_pos (Int32.le_refl _), show nI q + 1 = nI (q + 1) from nI_add q 1]
  · rintro r v x ⟨hv, rfl, hS⟩
    refine ⟨v, ?_, hv, fun S h => hS S h⟩
    rw [if_pos (show (6 : Int32) ≤ nI 6 by decide)]
  · rw [show S = 0 by rw [Nat.pow_zero] at hS; omega, h0, yor_z (m := 0) (Nat.zero_le 6) (fun q _ _ => Nat.zero_testBit q)]
    rfl
/-- the class's cover of posts by people -/
def yCv (C : Nat → Nat → Bool) (mu : Nat → Bool) (n p : Nat) (e : Nat → Nat → Int32) : Prop := n ≤ 6 ∧ p ≤ 7 ∧ (∃ mb, mb < 2 ^ n ∧ e 6 0 = nI mb ∧ ∀ q, q < n → mb.testBit q = mu q) ∧ ∀ S, S < 64 → e 8 S = nI (ymk (yrb C n S) p)
/-- who can do each post -/
def yCa (C : Nat → Nat → Bool) (n p : Nat) (e : Nat → Nat → Int32) : Prop := ∀ q, q < 6 → e 7 q = nI (if q < n then ymk (fun w => C w q) p else 0)
theorem yCv_or {C : Nat → Nat → Bool} {n p S : Nat} (hn : n ≤ 6) : yor (fun q => if q < n then ymk (fun w => C w q) p else 0) S 6 = ymk (yrb C n S) p := by
  apply Nat.eq_of_testBit_eq
  intro w
  rw [yor_tb, ymk_tb, Bool.eq_iff_iff, yex_i, Bool.and_eq_true, decide_eq_true_iff]
  constructor
  · rintro ⟨q, h1, h2⟩
    rw [Bool.and_eq_true] at h2
    by_cases hq : q < n
    · rw [if_pos hq, ymk_tb, Bool.and_eq_true, decide_eq_true_iff] at h2
      exact ⟨h2.2.1, yex_i.mpr ⟨q, hq, by rw [Bool.and_eq_true]; exact ⟨h2.1, h2.2.2⟩⟩⟩
    · rw [if_neg hq, Nat.zero_testBit] at h2
      cases h2.2
  · rintro ⟨h1, h2⟩
    obtain ⟨q, hq, h3⟩ := yex_i.mp h2
    rw [Bool.and_eq_true] at h3
    refine ⟨q, by omega, ?_⟩
    rw [Bool.and_eq_true, if_pos hq, ymk_tb, Bool.and_eq_true, decide_eq_true_iff]
    exact ⟨h3.1, h1, h3.2⟩
def yBC (a k : Nat) : Prop := (a = 6 ∧ k = 0) ∨ a = 7 ∨ (a = 8 ∧ 1 ≤ k)
section S
variable {n p yr tx rl tp c : Nat} {μ : zS}
theorem yBC_ag {u : zS} (h : yNs yBC μ u) : zAg tx μ u := yNs_ag h (fun a k x y => by unfold zess at y; unfold yBC at x; omega)
theorem yBC_dt {u : zS} (h : yNs yBC μ u) : zDt μ.2.1 u.2.1 := yNs_dt h (fun a k x => by unfold yBC at x; omega)
theorem X_look (h : zSt n p yr tx rl tp c μ) : ∃ u, F_X_lookWhoCan μ 0 = some u ∧ yNs yBC μ u ∧ yCv (zCan μ.2.1) (yMu μ.2.1) n p u.2.1 ∧ yCa (zCan μ.2.1) n p u.2.1 := by
  have hn6 := h.2.1.1
  have hp7 := h.2.2.1.1
  have h80 : μ.2.1 8 0 = 0 := h.2.2.2.2.2.2.2.2.2.2.2.1
  have hst : ∀ {u}, yNs yBC μ u → zSt n p yr tx rl tp c u ∧ zDt μ.2.1 u.2.1 := fun hu => ⟨zSt_ag h (yBC_ag hu), yBC_dt hu⟩
  have hu0 : yNs yBC μ (zuI μ 6 0 (μ.2.1 1 1)) := yNs_w (yNs_rf h.1) (Or.inl ⟨rfl, rfl⟩)
  have h60 : (zuI μ 6 0 (μ.2.1 1 1)).2.1 6 0 = μ.2.1 1 1 := by rw [uI_at, if_pos ⟨rfl, rfl⟩]
  unfold F_X_lookWhoCan
  rw [gR_0_8 h.1, zb_some, gR_0_0 h.1, zb_some, gI_1 h.1, zb_some, pI_6 h.1, zb_some]
  generalize zuI μ 6 0 (μ.2.1 1 1) = u0 at *
  refine fix2_p 6 (fun q v x => (yNs yBC μ v ∧ v.2.1 6 0 = μ.2.1 1 1) ∧ x = nI q ∧ ∀ j, j < q → v.2.1 7 j = 0) (fun o => ∃ u, o = some u ∧ yNs yBC μ u ∧ yCv (zCan μ.2.1) (yMu μ.2.1) n p u.2.1 ∧ yCa (zCan μ.2.1) n p u.2.1) ?_ ?_ (zFU_lt (by omega)) ⟨⟨hu0, h60⟩, rfl, fun j hj => absurd hj (Nat.not_lt_zero j)⟩
  · rintro r q v x hq ⟨⟨hv, hv6⟩, rfl, h7⟩
    left
    refine ⟨zuI v 7 q 0, nI (q + 1), ⟨⟨yNs_w hv (Or.inr (Or.inl rfl)), by rw [uI_off (by omega)]; exact hv6⟩, rfl, fun j hj => ?_⟩, ?_⟩
    · rw [uI_at]
      by_cases hjq : j = q
      · rw [if_pos ⟨rfl, hjq⟩]
      · rw [if_neg (fun z => hjq z.2)]; exact h7 j (by omega)
    · rw [if_neg (show ¬ (6 : Int32) ≤ nI q by rw [show (6 : Int32) = nI 6 from rfl, nI_leI (by omega) (by omega)]; omega), gR_0_8 hv.1, zb_some, gR_6_1 hv.1, zb_some, sI_7 hv.1 hq, zb_some, show nI q + 1 = nI (q + 1) from nI_add q 1]
  · rintro r v x ⟨⟨hv, hv6⟩, rfl, h7⟩
    rw [if_pos (show (6 : Int32) ≤ nI 6 by decide)]
    refine fix2_p n (fun q v x => (yNs yBC μ v ∧ v.2.1 6 0 = μ.2.1 1 1) ∧ x = nI q ∧ ∀ j, j < 6 → v.2.1 7 j = nI (if j < q then ymk (fun w => zCan μ.2.1 w j) p else 0)) (fun o => ∃ u, o = some u ∧ yNs yBC μ u ∧ yCv (zCan μ.2.1) (yMu μ.2.1) n p u.2.1 ∧ yCa (zCan μ.2.1) n p u.2.1) ?_ ?_ (zFU_lt (by omega)) ⟨⟨hv, hv6⟩, rfl, fun j hj => by rw [h7 j hj, if_neg (Nat.not_lt_zero j)]; rfl⟩
    · rintro r q v x hq ⟨⟨hv, hv6⟩, rfl, h7⟩
      obtain ⟨h1, hc1⟩ := hst hv
      rw [gR_0_0 h1.1, zb_some, gI_1 h1.1, zb_some, h1.2.1.2.1, if_neg (show ¬ nI n ≤ nI q by rw [nI_leI (by omega) (by omega)]; omega)]
      left
      refine fix2_p p (fun i v x => (yNs yBC μ v ∧ v.2.1 6 0 = μ.2.1 1 1) ∧ x = nI i ∧ (∀ j, j < 6 → j ≠ q → v.2.1 7 j = nI (if j < q then ymk (fun w => zCan μ.2.1 w j) p else 0)) ∧ v.2.1 7 q = nI (ymk (fun w => zCan μ.2.1 w q) i)) (fun o => ∃ y0 y1, ((yNs yBC μ y0 ∧ y0.2.1 6 0 = μ.2.1 1 1) ∧ y1 = nI (q + 1) ∧ ∀ j, j < 6 → y0.2.1 7 j = nI (if j < q + 1 then ymk (fun w => zCan μ.2.1 w j) p else 0)) ∧ o = r y0 y1) ?_ ?_ (zFU_lt (by omega)) ⟨⟨hv, hv6⟩, rfl, fun j hj _ => h7 j hj, by rw [h7 q (by omega), if_neg (Nat.lt_irrefl q)]; rfl⟩
      · rintro r2 i v x hi ⟨⟨hv, hv6⟩, rfl, h7, h7q⟩
        obtain ⟨h2, hc2⟩ := hst hv
        have hcan := can_X h2 hi hq
        rw [zCan_c hc2] at hcan
        have e1 : ymk (fun w => zCan μ.2.1 w q) (i + 1) = if zCan μ.2.1 i q = true then ymk (fun w => zCan μ.2.1 w q) i ||| 2 ^ i else ymk (fun w => zCan μ.2.1 w q) i := rfl
        left
        rw [gI_0 h2.1, zb_some, h2.2.2.1.2.1, if_neg (show ¬ nI p ≤ nI i by rw [nI_leI (by omega) (by omega)]; omega), gR_0_1 h2.1, zb_some, aR_3 h2.1 (by omega), zb_some, gR_0_0 h2.1, zb_some, fo_P h2.1 (by omega), zb_some, hcan, zb_some, show nI i + 1 = nI (i + 1) from nI_add i 1]
        cases hcc : zCan μ.2.1 i q
        · rw [hcc, if_neg (show ¬ false = true by decide)] at e1
          rw [if_pos (show b2 false = 0 from rfl)]
          exact ⟨v, nI (i + 1), ⟨⟨hv, hv6⟩, rfl, h7, by rw [e1]; exact h7q⟩, rfl⟩
        · rw [hcc, if_pos rfl] at e1
          rw [if_neg (show ¬ b2 true = 0 by decide), gR_0_8 h2.1, zb_some, gR_6_1 h2.1, zb_some, aI_7 h2.1 (by omega), zb_some, h7q, n_shl1 (by omega), nI_or, sI_7 h2.1 (by omega), zb_some]
          refine ⟨zuI v 7 q (nI (ymk (fun w => zCan μ.2.1 w q) i ||| 2 ^ i)), nI (i + 1), ⟨⟨yNs_w hv (Or.inr (Or.inl rfl)), by rw [uI_off (by omega)]; exact hv6⟩, rfl, fun j hj hjq => by rw [uI_at, if_neg (fun z => hjq z.2)]; exact h7 j hj hjq, by rw [uI_at, if_pos ⟨rfl, rfl⟩, e1]⟩, rfl⟩
      · rintro r2 v x ⟨⟨hv, hv6⟩, rfl, h7, h7q⟩
        obtain ⟨h2, hc2⟩ := hst hv
        refine ⟨v, nI (q + 1), ⟨⟨hv, hv6⟩, rfl, fun j hj => ?_⟩, ?_⟩
        · by_cases hjq : j = q
          · subst hjq; rw [h7q, if_pos (Nat.lt_succ_self j)]
          · rw [h7 j hj hjq]
            congr 1
            by_cases z : j < q
            · rw [if_pos z, if_pos (by omega)]
            · rw [if_neg z, if_neg (by omega)]
        · rw [gI_0 h2.1, zb_some, h2.2.2.1.2.1, if_pos (Int32.le_refl _), show nI q + 1 = nI (q + 1) from nI_add q 1]
    · rintro r v x ⟨⟨hv, hv6⟩, rfl, h7⟩
      obtain ⟨h1, hc1⟩ := hst hv
      obtain ⟨u', s1, s2, s3⟩ := X_spread (ab := fun q => if q < n then ymk (fun w => zCan μ.2.1 w q) p else 0) h1.1 (by rw [hv.2.2.2 8 0 (by unfold yBC; omega)]; exact h80) h7
      have hmb := h.2.1.2.2.2.2.2.1
      refine ⟨u', ?_, yNs_tr hv (yNs_mo s2 (fun a k z => Or.inr (Or.inr z))), ⟨hn6, hp7, ⟨(μ.2.1 1 1).toNatClampNeg, ?_, ?_, fun q hq => h.2.1.2.2.2.2.2.2.1 q (by omega)⟩, fun S hS => by rw [s3 S hS, yCv_or hn6]⟩, fun q hq => by rw [s2.2.2.2 7 q (by unfold yB8; omega)]; exact h7 q hq⟩
      · rw [gR_0_0 h1.1, zb_some, gI_1 h1.1, zb_some, h1.2.1.2.1, if_pos (Int32.le_refl _), gR_0_8 h1.1, zb_some, fo_6 h1.1, zb_some, s1, zb_some]
      · apply Nat.lt_pow_two_of_testBit
        intro j hj
        by_cases hj6 : j < 6
        · rw [h.2.1.2.2.2.2.2.2.1 j hj6, h.2.1.2.2.2.2.1 j hj6 hj]
          decide
        · exact tb_lt (p := 6) (by have := hmb.1; omega) (by omega)
      · rw [s2.2.2.2 6 0 (by unfold yB8; omega), hv6]
        exact hmb.2
end S
