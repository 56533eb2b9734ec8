-- ===== sure =====
def nJ (a : Nat) : Int64 := Int64.ofNat a
theorem nJ_toInt {a : Nat} (h : a < 2 ^ 63) : (nJ a).toInt = (a : Int) := Int64.toInt_ofNat_of_lt h
theorem nJ_add (a b : Nat) : nJ a + nJ b = nJ (a + b) := (Int64.ofNat_add a b).symm
theorem nJ_mul (a b : Nat) : nJ a * nJ b = nJ (a * b) := (Int64.ofNat_mul a b).symm
theorem nJ_inj {a b : Nat} (ha : a < 2 ^ 63) (hb : b < 2 ^ 63) (h : nJ a = nJ b) : a = b := by
  have h1 := nJ_toInt ha
  rw [h, nJ_toInt hb] at h1
  omega
theorem nJ_sub {a b : Nat} (h : b ≤ a) : nJ a - nJ b = nJ (a - b) := by
  have : nJ (a - b) + nJ b = nJ a := by rw [nJ_add, Nat.sub_add_cancel h]
  rw [← this, Int64.add_sub_cancel]
theorem nJ_div {a b : Nat} (ha : a < 2 ^ 63) (hb : b < 2 ^ 63) : nJ a / nJ b = nJ (a / b) := by
  apply Int64.toInt_inj.mp
  have h1 : a / b ≤ a := Nat.div_le_self a b
  rw [Int64.toInt_div, nJ_toInt ha, nJ_toInt hb, nJ_toInt (by omega), ← Int.ofNat_tdiv]
  generalize a / b = d at h1 ⊢
  rw [Int.bmod_def]
  split <;> omega
theorem nJ_rem {a b : Nat} (ha : a < 2 ^ 63) (hb : b < 2 ^ 63) : nJ a - nJ a / nJ b * nJ b = nJ (a % b) := by
  rw [nJ_div ha hb, nJ_mul, nJ_sub (Nat.div_mul_le_self a b)]
  congr 1
  have := Nat.mod_add_div a b
  rw [Nat.mul_comm] at this
  omega
theorem nJ_I {k : Nat} (h : k < 2 ^ 31) : (nI k).toInt64 = nJ k := by
  apply Int64.toInt_inj.mp
  rw [Int32.toInt_toInt64, nI_toInt h, nJ_toInt (by omega)]
theorem nJ_c0 {a : Nat} (h : a < 2 ^ 63) : lg_cmp (nJ a) 0 = 0 ↔ a = 0 := by
  rw [cmp_0]
  exact ⟨fun z => nJ_inj (b := 0) h (by decide) z, fun z => by rw [z]; rfl⟩
theorem nJ_z {a : Nat} (h : a < 2 ^ 63) : nJ a = 0 ↔ a = 0 := ⟨fun z => nJ_inj (b := 0) h (by decide) z, fun z => by rw [z]; rfl⟩
theorem nJ_cp {a : Nat} (h : a < 2 ^ 63) : lg_cmp (nJ a) 0 ≤ 0 ↔ a = 0 := by
  have h1 := cmp_gt (nJ a) 0
  have h2 : (0 : Int64) < nJ a ↔ 0 < a := by
    rw [Int64.lt_iff_toInt_lt, nJ_toInt h, show (0 : Int64).toInt = 0 by decide]
    omega
  rw [h2] at h1
  constructor
  · intro z
    apply Classical.byContradiction
    intro y
    exact absurd z (Int32.not_le.mpr (h1.mpr (by omega)))
  · intro z
    apply Int32.not_lt.mp
    intro y
    have := h1.mp y
    omega
/-- two steps of Euclid's halve -/
theorem yhalf {b r k : Nat} (hr : 0 < r) (hrb : r < b) (hb : b < 2 ^ (k + 1)) : b % r < 2 ^ k := by
  have h1 : b % r < r := Nat.mod_lt b hr
  have h2 : 2 ^ (k + 1) = 2 ^ k + 2 ^ k := by rw [Nat.pow_succ]; omega
  by_cases h : r ≤ 2 ^ k
  · omega
  · have h3 : b % r = b - r := by
      rw [Nat.mod_eq_sub_mod (by omega), Nat.mod_eq_of_lt (by omega)]
    omega
theorem X_gcd {u : zS} : ∀ (k a b j N : Nat), a < 2 ^ 63 → b < 2 ^ 63 → b < 2 ^ k → j + 2 * k < 100 → 2 * k < N →
    zfix3 (fun (r1 : Int64 → Int64 → Int32 → Option (Int64)) (x2 : Int64) (x3 : Int64) (x4 : Int32) => if 100 ≤ x4 then (some x2) else (if (lg_cmp x3 0) = 0 then (some x2) else (if x3 = 0 then none else r1 x3 (x2 - x2 / x3 * x3) (x4 + 1)))) N (nJ a) (nJ b) (nI j) = some (nJ (Nat.gcd a b)) := by
  intro k
  have e100 : ∀ j, j < 100 → ¬ (100 : Int32) ≤ nI j := fun j hj => by
    rw [show (100 : Int32) = nI 100 from rfl, nI_leI (by omega) (by omega)]; omega
  induction k with
  | zero =>
    intro a b j N ha hb hk hj hN
    obtain ⟨N, rfl⟩ : ∃ m, N = m + 1 := ⟨N - 1, by omega⟩
    have hb0 : b = 0 := by rw [Nat.pow_zero] at hk; omega
    subst hb0
    show (if (100 : Int32) ≤ nI j then _ else _) = _
    rw [if_neg (e100 j (by omega)), if_pos ((nJ_c0 (by decide)).mpr rfl), Nat.gcd_zero_right]
  | succ k ih =>
    intro a b j N ha hb hk hj hN
    obtain ⟨N, rfl⟩ : ∃ m, N = m + 2 := ⟨N - 2, by omega⟩
    show (if (100 : Int32) ≤ nI j then _ else _) = _
    rw [if_neg (e100 j (by omega))]
    by_cases hb0 : b = 0
    · subst hb0
      rw [if_pos ((nJ_c0 (by decide)).mpr rfl), Nat.gcd_zero_right]
    · rw [if_neg (fun z => hb0 ((nJ_c0 hb).mp z)), if_neg (fun z => hb0 ((nJ_z hb).mp z)), nJ_rem ha hb, show nI j + 1 = nI (j + 1) from nI_add j 1]
      have hr : a % b < b := Nat.mod_lt a (by omega)
      show (if (100 : Int32) ≤ nI (j + 1) then _ else _) = _
      rw [if_neg (e100 (j + 1) (by omega)), Nat.gcd_comm a b, Nat.gcd_rec b a]
      generalize a % b = r at hr ⊢
      by_cases hr0 : r = 0
      · subst hr0
        rw [if_pos ((nJ_c0 (by decide)).mpr rfl), Nat.gcd_zero_left]
      · rw [if_neg (fun z => hr0 ((nJ_c0 (by omega)).mp z)), if_neg (fun z => hr0 ((nJ_z (by omega)).mp z)), nJ_rem hb (by omega), show nI (j + 1) + 1 = nI (j + 2) from nI_add (j + 1) 1, Nat.gcd_rec r b, Nat.gcd_comm (b % r) r]
        have h3 : b % r < r := Nat.mod_lt b (by omega)
        exact ih r (b % r) (j + 2) N (by omega) (by omega) (yhalf (by omega) hr hk) (by omega) (by omega)
theorem M_gcd {u : zS} {α : Type} (K : Int64 → Option α) : ∀ (k a b N : Nat), a < 2 ^ 63 → b < 2 ^ 63 → b < 2 ^ k → 2 * k < N →
    zfix2 (fun (r1 : Int64 → Int64 → Option α) (x2 : Int64) (x3 : Int64) => if (lg_cmp x3 0) = 0 then K x2 else (if x3 = 0 then none else r1 x3 (x2 - x2 / x3 * x3))) N (nJ a) (nJ b) = K (nJ (Nat.gcd a b)) := by
  intro k
  induction k with
  | zero =>
    intro a b N ha hb hk hN
    obtain ⟨N, rfl⟩ : ∃ m, N = m + 1 := ⟨N - 1, by omega⟩
    have hb0 : b = 0 := by rw [Nat.pow_zero] at hk; omega
    subst hb0
    rw [show ∀ (B : (Int64 → Int64 → Option α) → Int64 → Int64 → Option α), zfix2 B (N + 1) (nJ a) (nJ 0) = B (zfix2 B N) (nJ a) (nJ 0) from fun _ => rfl]
    rw [if_pos ((nJ_c0 (by decide)).mpr rfl), Nat.gcd_zero_right]
  | succ k ih =>
    intro a b N ha hb hk hN
    obtain ⟨N, rfl⟩ : ∃ m, N = m + 2 := ⟨N - 2, by omega⟩
    show (if (lg_cmp (nJ b) 0) = 0 then _ else _) = _
    by_cases hb0 : b = 0
    · subst hb0
      rw [if_pos ((nJ_c0 (by decide)).mpr rfl), Nat.gcd_zero_right]
    · rw [if_neg (fun z => hb0 ((nJ_c0 hb).mp z)), if_neg (fun z => hb0 ((nJ_z hb).mp z)), nJ_rem ha hb]
      have hr : a % b < b := Nat.mod_lt a (by omega)
      show (if (lg_cmp (nJ (a % b)) 0) = 0 then _ else _) = _
      rw [Nat.gcd_comm a b, Nat.gcd_rec b a]
      generalize a % b = r at hr ⊢
      by_cases hr0 : r = 0
      · subst hr0
        rw [if_pos ((nJ_c0 (by decide)).mpr rfl), Nat.gcd_zero_left]
      · rw [if_neg (fun z => hr0 ((nJ_c0 (by omega)).mp z)), if_neg (fun z => hr0 ((nJ_z (by omega)).mp z)), nJ_rem hb (by omega), Nat.gcd_rec r b, Nat.gcd_comm (b % r) r]
        have h3 : b % r < r := Nat.mod_lt b (by omega)
        exact ih r (b % r) N (by omega) (by omega) (yhalf (by omega) hr hk) (by omega)
/-- above the line, of just these away -/
def yTn (e : Nat → Nat → Int32) (U : Nat) : Nat → Nat
  | 0 => 1
  | w + 1 => yTn e U w * (if U.testBit w = true then (e 79 w).toNatClampNeg else 10 - (e 79 w).toNatClampNeg)
def ySm (e : Nat → Nat → Int32) (B : Nat → Bool) (p : Nat) : Nat → Nat
  | 0 => 0
  | U + 1 => ySm e B p U + (if B U = true then yTn e U p else 0)
theorem yTn_le {e : Nat → Nat → Int32} {U : Nat} : ∀ w, (∀ i, i < w → (e 79 i).toNatClampNeg ≤ 9) → yTn e U w ≤ 10 ^ w
  | 0, _ => Nat.le_refl _
  | w + 1, h => by
    have ih := yTn_le (U := U) w (fun i hi => h i (by omega))
    have h2 : (if U.testBit w = true then (e 79 w).toNatClampNeg else 10 - (e 79 w).toNatClampNeg) ≤ 10 := by
      have := h w (by omega)
      split <;> omega
    rw [Nat.pow_succ]
    exact Nat.mul_le_mul ih h2
theorem ySm_le {e : Nat → Nat → Int32} {B : Nat → Bool} {p : Nat} (h : ∀ i, i < p → (e 79 i).toNatClampNeg ≤ 9) : ∀ U, ySm e B p U ≤ U * 10 ^ p
  | 0 => by show 0 ≤ _; omega
  | U + 1 => by
    have ih := ySm_le (B := B) h U
    have h2 := yTn_le (U := U) p h
    show ySm e B p U + _ ≤ _
    rw [Nat.add_mul, Nat.one_mul]
    split <;> omega
theorem p10_le {p : Nat} (h : p ≤ 7) : 10 ^ p ≤ 10000000 := Nat.pow_le_pow_right (n := 10) (by decide) h
theorem p10_pos (p : Nat) : 0 < 10 ^ p := Nat.pow_pos (by decide)
section S
variable {n p yr tx rl tp c : Nat} {μ : zS}
theorem nI_10 {a : Nat} (h : a ≤ 10) : (10 : Int32) - nI a = nI (10 - a) := by
  rw [show (10 : Int32) = nI 10 from rfl, pk_sub h]
theorem X_tenths {U : Nat} (h : zSt n p yr tx rl tp c μ) (hU : U < 2 ^ p) : F_X_tenthsOf μ 0 (nI U) = some (nJ (yTn μ.2.1 U p)) := by
  have hp7 := h.2.2.1.1
  have h2p := p2_le hp7
  unfold F_X_tenthsOf
  refine fix2_t p (fun w => nJ (yTn μ.2.1 U w)) (fun w => nI w) ?_ ?_ (zFU_lt (by omega))
  · intro r w hw
    obtain ⟨k1, k2, k3, k4, k5, k6, k7, k8, k9⟩ := h.2.2.1.2.2.2 w (by omega) hw
    have h9 := k9.1
    have e1 : yTn μ.2.1 U (w + 1) = yTn μ.2.1 U w * (if U.testBit w = true then (μ.2.1 79 w).toNatClampNeg else 10 - (μ.2.1 79 w).toNatClampNeg) := rfl
    have h3 : μ.2.1 (18 + 3 * w) 3 = nI (μ.2.1 79 w).toNatClampNeg := k8.trans k9.2
    rw [gI_0 h.1, zb_some, h.2.2.1.2.1, if_neg (show ¬ nI p ≤ nI w by rw [nI_leI (by omega) (by omega)]; omega), gR_0_1 h.1, zb_some, zb_some, aR_3 h.1 (by omega), zb_some, zb_some, gI_P h.1 (by omega), zb_some, zb_some, h3, zlet_eq, zlet_eq, show nI w + 1 = nI (w + 1) from nI_add w 1, nI_10 (by omega), nJ_I (by omega), nJ_I (by omega), nJ_mul, nJ_mul, e1]
    by_cases hb : U.testBit w = true
    · rw [if_pos ((nI_bit (by omega) (by omega)).mpr hb), if_pos hb]
    · rw [if_neg (show ¬ ((nI U >>> (nI w &&& 31)) &&& 1) = 1 from fun z => hb ((nI_bit (by omega) (by omega)).mp z)), if_neg hb]
  · intro r
    rw [gI_0 h.1, zb_some, h.2.2.1.2.1, if_pos (Int32.le_refl _)]
/-- what a pair of calls that answer longs must do -/
def zOkJ (c : Nat) (FX FM : zS → Option (Int64 × zS)) (μ : zS) : Prop := ∃ v μ1 μ2, FX μ = some (v, μ1) ∧ zFr μ1 ∧ FM μ1 = some (v, μ2) ∧ zSx (c + 1) μ2
theorem K_sure (h : zSt n p yr tx rl tp c μ) (a : Int32) : zOkJ c (fun u => F_X_sure u 0 a) (fun u => F_M_sure u 73 a) μ := by
  obtain ⟨hf, hP, hPe, hAs, hTa, hBa, hYr, hTp, hTx, hIm, hSh, hLt⟩ := id h
  have hn6 := hP.1
  have hp7 := hPe.1
  have n1 : ¬ nI 1 = 0 := by decide
  have n0 : nI 0 = 0 := rfl
  have h2p := p2_le hp7
  have h2q := p2_pos p
  have h10 := p10_le hp7
  have h10p := p10_pos p
  rcases zcase a (n := 2) (by decide) with ⟨part, hpart, rfl⟩ | ha
  · have ea := zc_lt hpart (show 2 < 2 ^ 31 by decide)
    obtain ⟨u, x1, x2, x3, -⟩ := X_look h
    have x3' := x3
    obtain ⟨-, -, ⟨mb, m1, m2, m3⟩, -⟩ := x3'
    have h1 := zSt_ag h (yBC_ag (tx := tx) x2)
    have hd := yBC_dt x2
    obtain ⟨u1, y1, y2, y3⟩ := M_fc h1
    have hd1 : zDt u.2.1 u1.2.1 := yNs_dt y2 (fun a k x => by omega)
    have hmf := yFm_of h1 hd1 y3
    rw [zCan_f hd, yMu_c hd] at hmf
    have h9 : ∀ i, i < p → (μ.2.1 79 i).toNatClampNeg ≤ 9 := by
      intro i hi
      obtain ⟨k1, k2, k3, k4, k5, k6, k7, k8, k9⟩ := hPe.2.2.2 i (by omega) hi
      exact k9.1
    generalize hB : (fun U : Nat => yfl (zCan μ.2.1) n p (yMu μ.2.1) n (fun w => !U.testBit w)) = B
    have hBe : ∀ U : Nat, B U = yfl (zCan μ.2.1) n p (yMu μ.2.1) n (fun w => !U.testBit w) := fun U => by rw [← hB]
    have hSl := ySm_le (B := B) h9
    have hSb : ySm μ.2.1 B p (2 ^ p) < 2 ^ 31 := by
      have := hSl (2 ^ p)
      have h3 : 2 ^ p * 10 ^ p ≤ 128 * 10000000 := Nat.mul_le_mul h2p h10
      omega
    have hTne : ∀ U, yTn u.2.1 U = yTn μ.2.1 U := by
      intro U
      funext w
      induction w with
      | zero => rfl
      | succ w ih =>
        show yTn u.2.1 U w * _ = yTn μ.2.1 U w * _
        rw [ih, hd 79 w (by omega)]
    have hgp : 0 < Nat.gcd (10 ^ p) (ySm μ.2.1 B p (2 ^ p)) := Nat.gcd_pos_of_pos_left _ h10p
    have hgl : Nat.gcd (10 ^ p) (ySm μ.2.1 B p (2 ^ p)) ≤ 10 ^ p := Nat.gcd_le_left _ h10p
    generalize hg : Nat.gcd (10 ^ p) (ySm μ.2.1 B p (2 ^ p)) = g at *
    have hX : F_X_sure μ 0 (nI part) = some (nJ ((if part = 0 then ySm μ.2.1 B p (2 ^ p) else 10 ^ p) / g), u) := by
      unfold F_X_sure
      rw [X_flag, if_pos ea, zb_some, if_neg n1, fo_0 hf, zb_some, x1, zb_some]
      refine fix2_t p (fun w => nJ (10 ^ w)) (fun w => nI w) ?_ ?_ (zFU_lt (by omega))
      · intro r w hw
        rw [gI_0 x2.1, zb_some, h1.2.2.1.2.1, if_neg (show ¬ nI p ≤ nI w by rw [nI_leI (by omega) (by omega)]; omega), show nI w + 1 = nI (w + 1) from nI_add w 1, show (10 : Int64) = nJ 10 from rfl, nJ_mul, Nat.pow_succ]
      · intro r
        rw [gI_0 x2.1, zb_some, h1.2.2.1.2.1, if_pos (Int32.le_refl _)]
        refine fix2_t (2 ^ p) (fun U => nJ (ySm μ.2.1 B p U)) (fun U => nI U) ?_ ?_ (zFU_lt (by omega))
        · intro r2 U hU
          have hT := X_few (F := fun w => !U.testBit w) x2.1 x3 m1 m2 (yall_free (U := U) hp7)
          have hH := (yTH (C := zCan μ.2.1) (p := p) (F := fun w => !U.testBit w) hn6 m1 m3).trans ((by rw [Nat.sub_self] : yH (zCan μ.2.1) n p (yMu μ.2.1) 0 (fun w => !U.testBit w) ↔ yH (zCan μ.2.1) n p (yMu μ.2.1) (n - n) (fun w => !U.testBit w)).trans (yhall (C := zCan μ.2.1) (p := p) (mu := yMu μ.2.1) n (fun w => !U.testBit w) (Nat.le_refl n)).symm)
          have e1 : ySm μ.2.1 B p (U + 1) = ySm μ.2.1 B p U + (if B U = true then yTn μ.2.1 U p else 0) := rfl
          simp only [fo_0 x2.1, zb_some, X_every x2.1 h1.2.2.1.2.1 hp7, gR_0_8 x2.1, fo_6 x2.1]
          rw [if_neg (show ¬ nI (2 ^ p - 1) < nI U by rw [nI_ltI (by omega) (by omega)]; omega), nI_mi (by omega) (by omega), hT, zb_some, show nI U + 1 = nI (U + 1) from nI_add U 1, e1, hBe]
          cases hfl : yfl (zCan μ.2.1) n p (yMu μ.2.1) n (fun w => !U.testBit w)
          · rw [if_neg (show ¬ (yT (zCan μ.2.1) n p mb (fun w => !U.testBit w) mb).1 = (-1) from fun z => by have := hH.mp z; rw [hfl] at this; cases this), if_neg (show ¬ false = true by decide)]; rfl
          · rw [if_pos (hH.mpr hfl), X_tenths h1 hU, zb_some, hTne, nJ_add, if_pos rfl]
        · intro r2
          rw [fo_0 x2.1, zb_some, X_every x2.1 h1.2.2.1.2.1 hp7, zb_some, if_pos (show nI (2 ^ p - 1) < nI (2 ^ p) from nI_lt (by omega) (by omega))]
          have hgcd : F_X_commonDivisor u (nJ (10 ^ p)) (nJ (ySm μ.2.1 B p (2 ^ p))) = some (nJ g) := by
            rw [← hg]
            exact X_gcd (u := u) 31 (10 ^ p) (ySm μ.2.1 B p (2 ^ p)) 0 zFU (by omega) (by omega) hSb (by decide) (by decide)
          have hj : ∀ (k : Int64 → Option (Int64 × zS)), zjn1 (fun (j16 : Int64 → Option (Int64 × zS)) => if nI part = 0 then (j16 (nJ (ySm μ.2.1 B p (2 ^ p)))) else (j16 (nJ (10 ^ p)))) k = k (nJ (if part = 0 then ySm μ.2.1 B p (2 ^ p) else 10 ^ p)) := by
            intro k
            rw [zjn1_eq]
            by_cases z : part = 0
            · rw [if_pos (show nI part = 0 by rw [z]; rfl), if_pos z]
            · rw [if_neg (show ¬ nI part = 0 from fun y => z (nI_inj (b := 0) (by omega) (by decide) y)), if_neg z]
          rw [hgcd, zb_some, hj, if_neg (show ¬ lg_cmp (nJ g) 0 ≤ 0 from fun z => by have := (nJ_cp (by omega)).mp z; omega), if_neg (show ¬ nJ g = 0 from fun z => by have := (nJ_z (by omega)).mp z; omega), nJ_div (by split <;> omega) (by omega)]
    have hM : ∃ w, F_M_sure u 73 (nI part) = some (nJ ((if part = 0 then ySm μ.2.1 B p (2 ^ p) else 10 ^ p) / g), w) ∧ yNs yBW u1 w := by
      have iM := M_inL u (nI part) 1 (by decide) (z := 1) rfl
      rw [if_pos ea] at iM
      unfold F_M_sure
      rw [iM, zb_some, if_neg n1, fo_73 h1.1, zb_some, y1, zb_some]
      refine fix2_p p (fun w x y => x = nJ (10 ^ w) ∧ y = nI w) (fun o => ∃ w, o = some (nJ ((if part = 0 then ySm μ.2.1 B p (2 ^ p) else 10 ^ p) / g), w) ∧ yNs yBW u1 w) ?_ ?_ (zFU_lt (by omega)) ⟨rfl, rfl⟩
      · rintro r w x y hw ⟨rfl, rfl⟩
        left
        refine ⟨nJ (10 ^ (w + 1)), nI (w + 1), ⟨rfl, rfl⟩, ?_⟩
        rw [gI_73 y2.1, zb_some, hmf.2.2.2.1, if_neg (show ¬ nI p ≤ nI w by rw [nI_leI (by omega) (by omega)]; omega), show nI w + 1 = nI (w + 1) from nI_add w 1, show (10 : Int64) = nJ 10 from rfl, nJ_mul, Nat.pow_succ]
      · rintro r x y ⟨rfl, rfl⟩
        rw [gI_73 y2.1, zb_some, hmf.2.2.2.1, if_pos (Int32.le_refl _)]
        refine fix3_p (2 ^ p) (fun U v x y => yNs yBW u1 v ∧ x = nJ (ySm μ.2.1 B p U) ∧ y = nI U) (fun o => ∃ w, o = some (nJ ((if part = 0 then ySm μ.2.1 B p (2 ^ p) else 10 ^ p) / g), w) ∧ yNs yBW u1 w) ?_ ?_ (zFU_lt (by omega)) ⟨yNs_rf y2.1, rfl, rfl⟩
        · rintro r2 U v x y hU ⟨hv, rfl, rfl⟩
          have hmv := yFm_W hv hmf
          have hTn := yTn_le (U := U) p h9
          have e1 : ySm μ.2.1 B p (U + 1) = ySm μ.2.1 B p U + (if B U = true then yTn μ.2.1 U p else 0) := rfl
          rw [gI_73 hv.1, zb_some, hmv.2.2.2.1, n_shl1 (by omega), if_neg (show ¬ nI (2 ^ p) ≤ nI U by rw [nI_leI (by omega) (by omega)]; omega)]
          left
          refine fix2_p p (fun w x y => x = nJ (yTn μ.2.1 U w) ∧ y = nI w) (fun o => ∃ y0 y1 y2, (yNs yBW u1 y0 ∧ y1 = nJ (ySm μ.2.1 B p (U + 1)) ∧ y2 = nI (U + 1)) ∧ o = r2 y0 y1 y2) ?_ ?_ (zFU_lt (by omega)) ⟨rfl, rfl⟩
          · rintro r3 w x y hw ⟨rfl, rfl⟩
            left
            have e2 : yTn μ.2.1 U (w + 1) = yTn μ.2.1 U w * (if U.testBit w = true then (μ.2.1 79 w).toNatClampNeg else 10 - (μ.2.1 79 w).toNatClampNeg) := rfl
            have h79 : v.2.1 79 w = nI (μ.2.1 79 w).toNatClampNeg := by
              rw [hv.2.2.2 79 w (by unfold yBW; omega), hd1 79 w (by omega), hd 79 w (by omega)]
              obtain ⟨k1, k2, k3, k4, k5, k6, k7, k8, k9⟩ := hPe.2.2.2 w (by omega) hw
              exact k9.2
            have h9w := h9 w hw
            refine ⟨nJ (yTn μ.2.1 U (w + 1)), nI (w + 1), ⟨rfl, rfl⟩, ?_⟩
            rw [zb_some, if_neg (show ¬ nI p ≤ nI w by rw [nI_leI (by omega) (by omega)]; omega), gR_73_8 hv.1, zb_some, zb_some, aI_79 hv.1 (by omega), zb_some, zb_some, h79, zlet_eq, zlet_eq, show nI w + 1 = nI (w + 1) from nI_add w 1, nI_10 (by omega), nJ_I (by omega), nJ_I (by omega), nJ_mul, nJ_mul, e2]
            by_cases hb : U.testBit w = true
            · rw [if_pos ((nI_bit (by omega) (by omega)).mpr hb), if_pos hb]
            · rw [if_neg (show ¬ ((nI U >>> (nI w &&& 31)) &&& 1) = 1 from fun z => hb ((nI_bit (by omega) (by omega)).mp z)), if_neg hb]
          · rintro r3 x y ⟨rfl, rfl⟩
            rw [zb_some, if_pos (show nI p ≤ nI p from Int32.le_refl _), show nI U + 1 = nI (U + 1) from nI_add U 1]
            by_cases h0 : yTn μ.2.1 U p = 0
            · rw [if_pos ((nJ_cp (by omega)).mpr h0)]
              refine ⟨v, nJ (ySm μ.2.1 B p (U + 1)), nI (U + 1), ⟨hv, rfl, rfl⟩, ?_⟩
              congr 1
              rw [show (0 : Int64) = nJ 0 from rfl, nJ_add, e1, h0]
              congr 1
              split <;> rfl
            · obtain ⟨v2, r1, r2'⟩ := M_isF2 hv.1 hmv hU
              rw [if_neg (fun z => h0 ((nJ_cp (by omega)).mp z)), fo_73 hv.1, zb_some, r1, zk_some]
              refine ⟨v2, nJ (ySm μ.2.1 B p (U + 1)), nI (U + 1), ⟨yNs_tr hv r2', rfl, rfl⟩, ?_⟩
              rw [e1, hBe]
              cases yfl (zCan μ.2.1) n p (yMu μ.2.1) n (fun w => !U.testBit w)
              · rw [if_pos (show b2 false = 0 from rfl), show (0 : Int64) = nJ 0 from rfl, nJ_add, if_neg (show ¬ false = true by decide)]
              · rw [if_neg (show ¬ b2 true = 0 by decide), nJ_add, if_pos rfl]
        · rintro r2 v x y ⟨hv, rfl, rfl⟩
          have hmv := yFm_W hv hmf
          refine ⟨v, ?_, hv⟩
          rw [gI_73 hv.1, zb_some, hmv.2.2.2.1, n_shl1 (by omega), if_pos (Int32.le_refl _)]
          have hpo : F_M_partOf v (nJ (ySm μ.2.1 B p (2 ^ p))) (nJ (10 ^ p)) (nI part) = some (nJ ((if part = 0 then ySm μ.2.1 B p (2 ^ p) else 10 ^ p) / g)) := by
            unfold F_M_partOf
            refine (M_gcd (u := v) (fun x2 => if nI part = 0 then (if x2 = 0 then none else some (nJ (ySm μ.2.1 B p (2 ^ p)) / x2)) else (if x2 = 0 then none else some (nJ (10 ^ p) / x2))) 24 (ySm μ.2.1 B p (2 ^ p)) (10 ^ p) zFU (by omega) (by omega) (by omega) (by decide)).trans ?_
            rw [Nat.gcd_comm, hg]
            have g0 : ¬ nJ g = 0 := fun z => by have := (nJ_z (by omega)).mp z; omega
            try dsimp only
            by_cases z : part = 0
            · rw [if_pos (show nI part = 0 by rw [z]; rfl), if_neg g0, if_pos z, nJ_div (by omega) (by omega)]
            · rw [if_neg (show ¬ nI part = 0 from fun y => z (nI_inj (b := 0) (by omega) (by decide) y)), if_neg g0, if_neg z, nJ_div (by omega) (by omega)]
          rw [hpo, zb_some]
    obtain ⟨w, w1, w2⟩ := hM
    have hag2 : zAg tx μ w := zAg_tr (yBC_ag x2) (zAg_tr (yNs_ag y2 (fun a k x y => by unfold zess at y; omega)) (yBW_ag w2))
    exact ⟨_, u, w, hX, x2.1, w1, n, p, yr, tx, rl, tp, zSt_m (zSt_ag h hag2)⟩
  · refine ⟨-4611686018427387904, μ, μ, ?_, hf, ?_, n, p, yr, tx, rl, tp, zSt_m h⟩
    · show F_X_sure μ 0 a = _
      unfold F_X_sure
      rw [X_flag, if_neg ha, zb_some, if_pos n0]
    · show F_M_sure μ 73 a = _
      unfold F_M_sure
      rw [M_inL μ a 1 (by decide) (z := 1) rfl, if_neg ha, zb_some, if_pos n0]
end S
