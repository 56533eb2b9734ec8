-- ===== the reference tries lessons =====
/-- the trying of a lesson or two -/
def yTc (a1 a2 a3 ct : Int32) (u4 : zS) : Option zS := (zob u4 9 (some 73)).bind fun q10 => (F_M_learns u4 q10 a2 1).bind fun u9 => zjn1 (fun (j12 : zS → Option (zS)) => if a3 < 0 then (j12 u9) else ((zob u9 9 (some 73)).bind fun q32 => (F_M_learns u9 q32 a3 1).bind fun u31 => j12 u31)) (fun (u11 : zS) => (zob u11 9 (some 73)).bind fun q15 => (F_M_worstOf u11 q15 a1).bind <| zk fun v13 u14 => zjn1 (fun (j17 : zS → Option (zS)) => if 0 ≤ v13 then (j17 u14) else (zjn1 (fun (j25 : Int32 → Option (zS)) => if 0 ≤ a3 then (j25 2) else (j25 1)) (fun (x24 : Int32) => (zpI u14 9 (some 73) 38 x24).bind fun u26 => (zpI u26 9 (some 73) 39 (ct)).bind fun u27 => if 0 ≤ a3 then ((zpI u27 9 (some 73) 40 (((100 : Int32) * a2) + a3)).bind fun u28 => j17 u28) else ((zpI u27 9 (some 73) 40 a2).bind fun u29 => j17 u29)))) (fun (u16 : zS) => (zob u16 9 (some 73)).bind fun q20 => (F_M_learns u16 q20 a2 0).bind fun u19 => if a3 < 0 then (some u19) else ((zob u19 9 (some 73)).bind fun q23 => (F_M_learns u19 q23 a3 0).bind fun u22 => some u22)))
def yrM (s : Int32 × Int32 × Int32) (v : zS) : Prop := v.2.1 73 38 = s.1 ∧ (s.1 ≠ (-1) → v.2.1 73 39 = s.2.1 ∧ v.2.1 73 40 = s.2.2)
def yBL (a k : Nat) : Prop := (89 ≤ a ∧ a ≤ 91) ∨ a = 93 ∨ (a = 73 ∧ 37 ≤ k ∧ k ≤ 40)
theorem yrow {C : Nat → Nat → Bool} {n k w : Nat} (hq : k % 10 < n) : ymk (yC1 C k w) n = if w = k / 10 then ymk (C w) n ||| 2 ^ (k % 10) else ymk (C w) n := by
  apply Nat.eq_of_testBit_eq
  intro j
  by_cases h : w = k / 10
  · rw [if_pos h, tb_or, ymk_tb, ymk_tb]
    unfold yC1
    rw [decide_eq_true h, Bool.true_and]
    by_cases z : j = k % 10
    · subst z; rw [decide_eq_true rfl, decide_eq_true hq]; simp
    · rw [decide_eq_false z, Bool.or_false, Bool.or_false]
  · rw [if_neg h, ymk_tb, ymk_tb]
    unfold yC1
    rw [decide_eq_false h, Bool.false_and, Bool.or_false]
section S
variable {n p yr rl many : Nat} {C : Nat → Nat → Bool} {mu : Nat → Bool} {v : zS}
theorem k10 {k : Nat} (hk : k < 2 ^ 31) : nI k / 10 = nI (k / 10) ∧ nI k - nI k / 10 * 10 = nI (k % 10) := ⟨q_div hk (by decide) (by decide), q_rem hk (by decide) (by decide)⟩
theorem M_learn1 {k m : Nat} (hf : zFr v) (hk : k / 10 < 7) (hv : v.2.1 91 (k / 10) = nI m) : F_M_learns v 73 (nI k) 1 = some (zuI v 91 (k / 10) (nI (m ||| 2 ^ (k % 10)))) := by
  obtain ⟨e1, e2⟩ := k10 (show k < 2 ^ 31 by omega)
  unfold F_M_learns
  rw [zlet_eq, e2, e1, n_shl1 (by omega), gR_73_32 hf, zb_some, if_neg (show ¬ (1 : Int32) = 0 by decide), zb_some, aI_91 hf hk, zb_some, hv, nI_or, sI_91 hf hk, zb_some]
theorem M_learn0 {k m : Nat} (hf : zFr v) (hk : k / 10 < 7) (hm : m < 128) (hv : v.2.1 91 (k / 10) = nI m) : F_M_learns v 73 (nI k) 0 = some (zuI v 91 (k / 10) (nI (zmi m (2 ^ (k % 10))))) := by
  obtain ⟨e1, e2⟩ := k10 (show k < 2 ^ 31 by omega)
  have h9 : 2 ^ (k % 10) < 2 ^ 31 := Nat.pow_lt_pow_right (by decide) (by omega)
  unfold F_M_learns
  rw [zlet_eq, e2, e1, n_shl1 (by omega), gR_73_32 hf, zb_some, if_pos rfl, zb_some, aI_91 hf hk, zb_some, hv, nI_mi hm h9, sI_91 hf hk, zb_some]
/-- the rows as who can do what -/
def yRw (C : Nat → Nat → Bool) (n p : Nat) (e : Nat → Nat → Int32) : Prop := ∀ w, w < p → e 91 w = nI (ymk (C w) n)
theorem yRw_1 {k : Nat} (hw : k / 10 < p) (hq : k % 10 < n) (h : yRw C n p v.2.1) : yRw (yC1 C k) n p (zuI v 91 (k / 10) (nI (ymk (C (k / 10)) n ||| 2 ^ (k % 10)))).2.1 := by
  intro w hwp
  rw [uI_at, yrow hq]
  by_cases z : w = k / 10
  · subst z; rw [if_pos ⟨rfl, rfl⟩, if_pos rfl]
  · rw [if_neg (fun y => z y.2), if_neg z]; exact h w hwp
theorem yFm_R (hn : n ≤ 6) (hp : p ≤ 7) (h1 : v.2.1 73 1 = nI n) (h4 : v.2.1 73 4 = nI p) (h74 : ∀ q, q < n → v.2.1 74 q = b2 (mu q)) (h : yRw C n p v.2.1) : yFm C mu n p v.2.1 :=
  ⟨hn, hp, h1, h4, h74, fun w hw => ⟨_, Nat.lt_of_lt_of_le ymk_lt (p2_6 hn), h w hw, fun q hq => by rw [ymk_tb, decide_eq_true hq, Bool.true_and]⟩⟩
theorem yun {m q : Nat} (hm : m < 128) (hq : m.testBit q = false) (hq6 : q < 7) : zmi (m ||| 2 ^ q) (2 ^ q) = m := by
  have hml : m ||| 2 ^ q < 128 := Nat.or_lt_two_pow (n := 7) hm (Nat.pow_lt_pow_right (by decide) hq6)
  apply Nat.eq_of_testBit_eq
  intro j
  rw [tb_mi hml, tb_or, Nat.testBit_two_pow]
  by_cases z : j = q
  · subst z; rw [hq]; simp
  · rw [decide_eq_false z, decide_eq_false (fun y => z y.symm)]; simp
theorem yTc_1 {k : Nat} {ct : Int32} (hf : zFr v) (hn : n ≤ 6) (hp : p ≤ 7) (h1 : v.2.1 73 1 = nI n) (h4 : v.2.1 73 4 = nI p) (h74 : ∀ q, q < n → v.2.1 74 q = b2 (mu q)) (hR : yRw C n p v.2.1) (hw : k / 10 < p) (hq : k % 10 < n) (hC : C (k / 10) (k % 10) = false) (hmany : many < 2 ^ 31) :
    ∃ v', yTc (nI many) (nI k) (-1) ct v = some v' ∧ yNs yBL v v' ∧ (∀ w, v'.2.1 91 w = v.2.1 91 w) ∧ ((yfi (yPw (yC1 C k) mu n p many) (2 ^ p)).isNone = true → v'.2.1 73 38 = 1 ∧ v'.2.1 73 39 = ct ∧ v'.2.1 73 40 = nI k) ∧ ((yfi (yPw (yC1 C k) mu n p many) (2 ^ p)).isNone = false → ∀ j, 38 ≤ j → j ≤ 40 → v'.2.1 73 j = v.2.1 73 j) := by
  have h2p := p2_le hp
  have hml : ymk (C (k / 10)) n < 64 := Nat.lt_of_lt_of_le ymk_lt (p2_6 hn)
  have hol : ymk (C (k / 10)) n ||| 2 ^ (k % 10) < 128 := Nat.or_lt_two_pow (n := 7) (by omega) (Nat.pow_lt_pow_right (by decide) (by omega))
  have hbit : (ymk (C (k / 10)) n).testBit (k % 10) = false := by rw [ymk_tb, decide_eq_true hq, Bool.true_and]; exact hC
  have hl := M_learn1 hf (show k / 10 < 7 by omega) (hR _ hw)
  generalize hv1 : zuI v 91 (k / 10) (nI (ymk (C (k / 10)) n ||| 2 ^ (k % 10))) = v1 at hl
  have f1 : zFr v1 := by rw [← hv1]; exact fr_uI hf
  have o1 : ∀ a j, a ≠ 91 → v1.2.1 a j = v.2.1 a j := fun a j z => by rw [← hv1, uI_off z]
  have hR1 : yRw (yC1 C k) n p v1.2.1 := by rw [← hv1]; exact yRw_1 hw hq hR
  have hm1 : yFm (yC1 C k) mu n p v1.2.1 := yFm_R hn hp ((o1 _ _ (by omega)).trans h1) ((o1 _ _ (by omega)).trans h4) (fun q hq => (o1 _ _ (by omega)).trans (h74 q hq)) hR1
  obtain ⟨v2, w1, w2⟩ := M_worst (many := many) f1 hm1 hmany
  have hneg := yfv_neg (P := yPw (yC1 C k) mu n p many) (N := 2 ^ p) (by omega)
  have h91 : ∀ w, v2.2.1 91 w = v1.2.1 91 w := fun w => w2.2.2.2 91 w (by unfold yBW; omega)
  have hend : ∀ (v3 : zS), zFr v3 → (∀ w, v3.2.1 91 w = v1.2.1 91 w) → F_M_learns v3 73 (nI k) 0 = some (zuI v3 91 (k / 10) (nI (ymk (C (k / 10)) n))) := by
    intro v3 f3 h3
    have := M_learn0 (v := v3) (k := k) (m := ymk (C (k / 10)) n ||| 2 ^ (k % 10)) f3 (by omega) hol (by rw [h3, ← hv1, uI_at, if_pos ⟨rfl, rfl⟩])
    rw [yun (by omega) hbit (by omega)] at this
    exact this
  have hrow : ∀ (v3 : zS), (∀ w, v3.2.1 91 w = v1.2.1 91 w) → ∀ w, (zuI v3 91 (k / 10) (nI (ymk (C (k / 10)) n))).2.1 91 w = v.2.1 91 w := by
    intro v3 h3 w
    rw [uI_at]
    by_cases z : w = k / 10
    · subst z; rw [if_pos ⟨rfl, rfl⟩]; exact (hR _ hw).symm
    · rw [if_neg (fun y => z y.2), h3, ← hv1, uI_at, if_neg (fun y => z y.2)]
  have hN : yNs yBL v v2 := by
    refine yNs_tr (u' := v1) ?_ (yNs_mo w2 (fun a k z => by unfold yBW at z; unfold yBL; omega))
    rw [← hv1]
    exact yNs_w (yNs_rf hf) (Or.inl (by omega))
  unfold yTc
  rw [fo_73 hf, zb_some, hl, zb_some, zjn1_eq, if_pos (show (-1 : Int32) < 0 by decide)]
  try dsimp only
  rw [fo_73 f1, zb_some, w1, zk_some, zjn1_eq]
  cases hy : (yfi (yPw (yC1 C k) mu n p many) (2 ^ p)).isNone
  · have hns : yfi (yPw (yC1 C k) mu n p many) (2 ^ p) ≠ none := fun z => by rw [z] at hy; cases hy
    rw [if_pos (Int32.not_lt.mp (fun z => hns (hneg.mp z)))]
    try dsimp only
    rw [fo_73 w2.1, zb_some, hend v2 w2.1 h91, zb_some, if_pos (show (-1 : Int32) < 0 by decide)]
    refine ⟨_, rfl, yNs_w hN (Or.inl (by omega)), hrow v2 h91, fun z => (by cases z), fun _ j j1 j2 => ?_⟩
    rw [uI_off (by omega), w2.2.2.2 73 j (by unfold yBW; omega), o1 73 j (by omega)]
  · have hnn : yfi (yPw (yC1 C k) mu n p many) (2 ^ p) = none := by
      cases z : yfi (yPw (yC1 C k) mu n p many) (2 ^ p) with
      | none => rfl
      | some i => rw [z] at hy; cases hy
    have f2 : zFr (zuI v2 73 38 1) := fr_uI w2.1
    have f3 : zFr (zuI (zuI v2 73 38 1) 73 39 ct) := fr_uI f2
    have f4 : zFr (zuI (zuI (zuI v2 73 38 1) 73 39 ct) 73 40 (nI k)) := fr_uI f3
    rw [if_neg (fun z => absurd (hneg.mpr hnn) (Int32.not_lt.mpr z)), zjn1_eq, if_neg (show ¬ (0 : Int32) ≤ (-1) by decide)]
    try dsimp only
    rw [pI_73 w2.1, zb_some, pI_73 f2, zb_some, if_neg (show ¬ (0 : Int32) ≤ (-1) by decide), pI_73 f3, zb_some]
    try dsimp only
    have h3 : ∀ w, (zuI (zuI (zuI v2 73 38 1) 73 39 ct) 73 40 (nI k)).2.1 91 w = v1.2.1 91 w := fun w => by rw [uI_off (by omega), uI_off (by omega), uI_off (by omega)]; exact h91 w
    rw [fo_73 f4, zb_some, hend _ f4 h3, zb_some, if_pos (show (-1 : Int32) < 0 by decide)]
    refine ⟨_, rfl, yNs_w (yNs_w (yNs_w (yNs_w hN (Or.inr (Or.inr (by omega)))) (Or.inr (Or.inr (by omega)))) (Or.inr (Or.inr (by omega)))) (Or.inl (by omega)), hrow _ h3, fun _ => ⟨?_, ?_, ?_⟩, fun z => (by cases z)⟩
    · rw [uI_off (by omega), uI_at, if_neg (by omega), uI_at, if_neg (by omega), uI_at, if_pos ⟨rfl, rfl⟩]
    · rw [uI_off (by omega), uI_at, if_neg (by omega), uI_at, if_pos ⟨rfl, rfl⟩]
    · rw [uI_off (by omega), uI_at, if_pos ⟨rfl, rfl⟩]
theorem yTc_2 {k l : Nat} {ct : Int32} (hf : zFr v) (hn : n ≤ 6) (hp : p ≤ 7) (h1 : v.2.1 73 1 = nI n) (h4 : v.2.1 73 4 = nI p) (h74 : ∀ q, q < n → v.2.1 74 q = b2 (mu q)) (hR : yRw C n p v.2.1) (hw : k / 10 < p) (hq : k % 10 < n) (hC : C (k / 10) (k % 10) = false) (hw2 : l / 10 < p) (hq2 : l % 10 < n) (hC2 : C (l / 10) (l % 10) = false) (hkl : k < l) (hmany : many < 2 ^ 31) :
    ∃ v', yTc (nI many) (nI k) (nI l) ct v = some v' ∧ yNs yBL v v' ∧ (∀ w, v'.2.1 91 w = v.2.1 91 w) ∧ ((yfi (yPw (yC1 (yC1 C k) l) mu n p many) (2 ^ p)).isNone = true → v'.2.1 73 38 = 2 ∧ v'.2.1 73 39 = ct ∧ v'.2.1 73 40 = nI (100 * k + l)) ∧ ((yfi (yPw (yC1 (yC1 C k) l) mu n p many) (2 ^ p)).isNone = false → ∀ j, 38 ≤ j → j ≤ 40 → v'.2.1 73 j = v.2.1 73 j) := by
  have h2p := p2_le hp
  have hlt0 : ¬ nI l < 0 := nI_lt0 (by omega)
  have hle0 : (0 : Int32) ≤ nI l := Int32.not_lt.mp hlt0
  have m64 : ∀ (D : Nat → Nat → Bool) w, ymk (D w) n < 64 := fun D w => Nat.lt_of_lt_of_le ymk_lt (p2_6 hn)
  have bitF : ∀ (D : Nat → Nat → Bool) w q, q < n → (ymk (D w) n).testBit q = D w q := fun D w q hq => by rw [ymk_tb, decide_eq_true hq, Bool.true_and]
  have hl := M_learn1 hf (show k / 10 < 7 by omega) (hR _ hw)
  have hR1 := yRw_1 hw hq hR
  generalize hv1 : zuI v 91 (k / 10) (nI (ymk (C (k / 10)) n ||| 2 ^ (k % 10))) = v1 at hl hR1
  have f1 : zFr v1 := by rw [← hv1]; exact fr_uI hf
  have o1 : ∀ a j, a ≠ 91 → v1.2.1 a j = v.2.1 a j := fun a j z => by rw [← hv1, uI_off z]
  have hl2 := M_learn1 f1 (show l / 10 < 7 by omega) (hR1 _ hw2)
  have hR2 := yRw_1 hw2 hq2 hR1
  generalize hv2 : zuI v1 91 (l / 10) (nI (ymk (yC1 C k (l / 10)) n ||| 2 ^ (l % 10))) = v2 at hl2 hR2
  have f2 : zFr v2 := by rw [← hv2]; exact fr_uI f1
  have o2 : ∀ a j, a ≠ 91 → v2.2.1 a j = v.2.1 a j := fun a j z => by rw [← hv2, uI_off z, o1 a j z]
  have hm2 : yFm (yC1 (yC1 C k) l) mu n p v2.2.1 := yFm_R hn hp ((o2 _ _ (by omega)).trans h1) ((o2 _ _ (by omega)).trans h4) (fun q hq => (o2 _ _ (by omega)).trans (h74 q hq)) hR2
  obtain ⟨v3, w1, w2⟩ := M_worst (many := many) f2 hm2 hmany
  have hneg := yfv_neg (P := yPw (yC1 (yC1 C k) l) mu n p many) (N := 2 ^ p) (by omega)
  have h91 : ∀ w, v3.2.1 91 w = v2.2.1 91 w := fun w => w2.2.2.2 91 w (by unfold yBW; omega)
  -- both unlearnt
  have hend : ∀ (x : zS), zFr x → (∀ w, x.2.1 91 w = v2.2.1 91 w) → ∃ y z, F_M_learns x 73 (nI k) 0 = some y ∧ zFr y ∧ F_M_learns y 73 (nI l) 0 = some z ∧ yNs (fun a _ => a = 91) x z ∧ ∀ w, z.2.1 91 w = v.2.1 91 w := by
    intro x fx hx
    have hxk : x.2.1 91 (k / 10) = nI (ymk (yC1 (yC1 C k) l (k / 10)) n) := by rw [hx]; exact hR2 _ hw
    have e1 := M_learn0 (v := x) (k := k) fx (by omega) (by have := m64 (yC1 (yC1 C k) l) (k / 10); omega) hxk
    generalize hy : zuI x 91 (k / 10) (nI (zmi (ymk (yC1 (yC1 C k) l (k / 10)) n) (2 ^ (k % 10)))) = y at e1
    have fy : zFr y := by rw [← hy]; exact fr_uI fx
    -- the row of the second
    have hyl : ∃ m, m < 128 ∧ y.2.1 91 (l / 10) = nI m ∧ zmi m (2 ^ (l % 10)) = ymk (C (l / 10)) n := by
      by_cases z : l / 10 = k / 10
      · refine ⟨zmi (ymk (yC1 (yC1 C k) l (k / 10)) n) (2 ^ (k % 10)), zmi_lt (by have := m64 (yC1 (yC1 C k) l) (k / 10); omega), by rw [← hy, uI_at, if_pos ⟨rfl, z⟩], ?_⟩
        apply Nat.eq_of_testBit_eq
        intro j
        rw [tb_mi (zmi_lt (by have := m64 (yC1 (yC1 C k) l) (k / 10); omega)), tb_mi (by have := m64 (yC1 (yC1 C k) l) (k / 10); omega), ymk_tb, ymk_tb, Nat.testBit_two_pow, Nat.testBit_two_pow]
        unfold yC1
        rw [decide_eq_true rfl, decide_eq_true z.symm, Bool.true_and, Bool.true_and]
        by_cases j1 : j = k % 10
        · subst j1
          rw [decide_eq_true (show k % 10 = k % 10 from rfl), z, hC]; simp
        · by_cases j2 : j = l % 10
          · subst j2
            rw [decide_eq_true (show l % 10 = l % 10 from rfl), hC2]; simp
          · rw [decide_eq_false j1, decide_eq_false j2, decide_eq_false (show ¬ k % 10 = j from fun y => j1 y.symm), decide_eq_false (show ¬ l % 10 = j from fun y => j2 y.symm), z]; simp
      · refine ⟨ymk (C (l / 10)) n ||| 2 ^ (l % 10), Nat.or_lt_two_pow (n := 7) (by have := m64 C (l / 10); omega) (Nat.pow_lt_pow_right (by decide) (by omega)), ?_, yun (by have := m64 C (l / 10); omega) (by rw [bitF C _ _ hq2]; exact hC2) (by omega)⟩
        rw [← hy, uI_at, if_neg (fun y => z y.2), hx, hR2 _ hw2, yrow hq2, if_pos rfl, yrow hq, if_neg z]
    obtain ⟨m, g1, g2, g3⟩ := hyl
    have e2 := M_learn0 (v := y) (k := l) fy (by omega) g1 g2
    rw [g3] at e2
    refine ⟨y, zuI y 91 (l / 10) (nI (ymk (C (l / 10)) n)), e1, fy, e2, ?_, fun w => ?_⟩
    · rw [← hy]
      exact yNs_w (yNs_w (yNs_rf fx) rfl) rfl
    · rw [uI_at]
      by_cases z : w = l / 10
      · subst z; rw [if_pos ⟨rfl, rfl⟩]; exact (hR _ hw2).symm
      · rw [if_neg (fun y => z y.2), ← hy, uI_at]
        by_cases z2 : w = k / 10
        · subst z2
          rw [if_pos ⟨rfl, rfl⟩, yrow hq2, if_neg z, yrow hq, if_pos rfl, yun (by have := m64 C (k / 10); omega) (by rw [bitF C _ _ hq]; exact hC) (by omega)]
          exact (hR _ hw).symm
        · rw [if_neg (fun y => z2 y.2), hx, ← hv2, uI_at, if_neg (fun y => z y.2), ← hv1, uI_at, if_neg (fun y => z2 y.2)]
  have hN : yNs yBL v v3 := by
    refine yNs_tr (u' := v2) ?_ (yNs_mo w2 (fun a k z => by unfold yBW at z; unfold yBL; omega))
    rw [← hv2, ← hv1]
    exact yNs_w (yNs_w (yNs_rf hf) (Or.inl (by omega))) (Or.inl (by omega))
  unfold yTc
  rw [fo_73 hf, zb_some, hl, zb_some, zjn1_eq, if_neg hlt0, fo_73 f1, zb_some, hl2, zb_some]
  try dsimp only
  rw [fo_73 f2, zb_some, w1, zk_some, zjn1_eq]
  cases hy : (yfi (yPw (yC1 (yC1 C k) l) mu n p many) (2 ^ p)).isNone
  · have hns : yfi (yPw (yC1 (yC1 C k) l) mu n p many) (2 ^ p) ≠ none := fun z => by rw [z] at hy; cases hy
    obtain ⟨y, z, e1, fy, e2, e3, e4⟩ := hend v3 w2.1 h91
    rw [if_pos (Int32.not_lt.mp (fun z => hns (hneg.mp z)))]
    try dsimp only
    rw [fo_73 w2.1, zb_some, e1, zb_some, if_neg hlt0, fo_73 fy, zb_some, e2, zb_some]
    refine ⟨z, rfl, yNs_tr hN (yNs_mo e3 (fun a k y => Or.inl (by omega))), e4, fun z => (by cases z), fun _ j j1 j2 => ?_⟩
    rw [e3.2.2.2 73 j (by omega), w2.2.2.2 73 j (by unfold yBW; omega), o2 73 j (by omega)]
  · have hnn : yfi (yPw (yC1 (yC1 C k) l) mu n p many) (2 ^ p) = none := by
      cases z : yfi (yPw (yC1 (yC1 C k) l) mu n p many) (2 ^ p) with
      | none => rfl
      | some i => rw [z] at hy; cases hy
    have f3 : zFr (zuI v3 73 38 2) := fr_uI w2.1
    have f4 : zFr (zuI (zuI v3 73 38 2) 73 39 ct) := fr_uI f3
    have f5 : zFr (zuI (zuI (zuI v3 73 38 2) 73 39 ct) 73 40 (nI (100 * k + l))) := fr_uI f4
    have h3 : ∀ w, (zuI (zuI (zuI v3 73 38 2) 73 39 ct) 73 40 (nI (100 * k + l))).2.1 91 w = v2.2.1 91 w := fun w => by rw [uI_off (by omega), uI_off (by omega), uI_off (by omega)]; exact h91 w
    obtain ⟨y, z, e1, fy, e2, e3, e4⟩ := hend _ f5 h3
    rw [if_neg (fun z => absurd (hneg.mpr hnn) (Int32.not_lt.mpr z)), zjn1_eq, if_pos hle0]
    try dsimp only
    rw [pI_73 w2.1, zb_some, pI_73 f3, zb_some, if_pos hle0, show (100 : Int32) = nI 100 from rfl, pk_mul, nI_add, pI_73 f4, zb_some]
    try dsimp only
    rw [fo_73 f5, zb_some, e1, zb_some, if_neg hlt0, fo_73 fy, zb_some, e2, zb_some]
    refine ⟨z, rfl, yNs_tr (yNs_w (yNs_w (yNs_w hN (Or.inr (Or.inr (by omega)))) (Or.inr (Or.inr (by omega)))) (Or.inr (Or.inr (by omega)))) (yNs_mo e3 (fun a k y => Or.inl (by omega))), e4, fun _ => ⟨?_, ?_, ?_⟩, fun z => (by cases z)⟩
    · rw [e3.2.2.2 73 38 (by omega), uI_at, if_neg (by omega), uI_at, if_neg (by omega), uI_at, if_pos ⟨rfl, rfl⟩]
    · rw [e3.2.2.2 73 39 (by omega), uI_at, if_neg (by omega), uI_at, if_pos ⟨rfl, rfl⟩]
    · rw [e3.2.2.2 73 40 (by omega), uI_at, if_pos ⟨rfl, rfl⟩]
end S
