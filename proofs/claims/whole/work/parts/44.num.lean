-- ===== numbers =====
theorem fa_lt (a b : Int32) : a < b ↔ a.toInt < b.toInt := Int32.lt_iff_toInt_lt
theorem fa_le (a b : Int32) : a ≤ b ↔ a.toInt ≤ b.toInt := Int32.le_iff_toInt_le
theorem fa_lit (n : Nat) : (OfNat.ofNat n : Int32) = nI n := rfl
theorem w_lt (a b : Int32) : a.toInt64 < b.toInt64 ↔ a < b := by rw [Int64.lt_iff_toInt_lt, Int32.toInt_toInt64, Int32.toInt_toInt64, Int32.lt_iff_toInt_lt]
theorem w_le (a b : Int32) : a.toInt64 ≤ b.toInt64 ↔ a ≤ b := by rw [Int64.le_iff_toInt_le, Int32.toInt_toInt64, Int32.toInt_toInt64, Int32.le_iff_toInt_le]
theorem cmp_lt (x y : Int64) : lg_cmp x y < 0 ↔ x < y := by
  unfold lg_cmp
  by_cases h1 : x > y
  · rw [if_pos h1]
    have h2 := Int64.lt_iff_toInt_lt.mp h1
    refine ⟨fun h => absurd h (by decide), fun h => ?_⟩
    have h3 := Int64.lt_iff_toInt_lt.mp h
    omega
  · rw [if_neg h1]
    by_cases h2 : x = y
    · rw [if_pos h2]
      refine ⟨fun h => absurd h (by decide), fun h => ?_⟩
      subst h2
      exact absurd (Int64.lt_iff_toInt_lt.mp h) (by omega)
    · rw [if_neg h2]
      refine ⟨fun _ => ?_, fun _ => by decide⟩
      have h3 : ¬ y.toInt < x.toInt := fun q => h1 (Int64.lt_iff_toInt_lt.mpr q)
      have h4 : ¬ x.toInt = y.toInt := fun q => h2 (Int64.toInt_inj.mp q)
      exact Int64.lt_iff_toInt_lt.mpr (by omega)
theorem cmp_gt (x y : Int64) : 0 < lg_cmp x y ↔ y < x := by
  unfold lg_cmp
  by_cases h1 : x > y
  · rw [if_pos h1]
    exact ⟨fun _ => h1, fun _ => by decide⟩
  · rw [if_neg h1]
    refine ⟨fun h => ?_, fun h => absurd h h1⟩
    by_cases h2 : x = y
    · rw [if_pos h2] at h; exact absurd h (by decide)
    · rw [if_neg h2] at h; exact absurd h (by decide)
theorem in_ok (u : zS) (a x y : Int64) : F_M_in u a x y = some (if x ≤ a ∧ a ≤ y then 1 else 0) := by
  unfold F_M_in
  by_cases h1 : a < x
  · rw [if_pos ((cmp_lt a x).mpr h1), if_neg (fun h => absurd h.1 (Int64.not_le.mpr h1))]
  · rw [if_neg (fun h => h1 ((cmp_lt a x).mp h))]
    by_cases h2 : y < a
    · rw [if_pos ((cmp_gt a y).mpr h2), if_neg (fun h => absurd h.2 (Int64.not_le.mpr h2))]
    · rw [if_neg (fun h => h2 ((cmp_gt a y).mp h)), if_pos ⟨Int64.not_lt.mp h1, Int64.not_lt.mp h2⟩]
theorem in32 (u : zS) (a x y : Int32) : F_M_in u a.toInt64 x.toInt64 y.toInt64 = some (if x ≤ a ∧ a ≤ y then 1 else 0) := by simp only [in_ok, w_le]
theorem nI_sub1 {a : Nat} (h : 0 < a) : nI a - 1 = nI (a - 1) := by
  obtain ⟨b, rfl⟩ : ∃ b, a = b + 1 := ⟨a - 1, by omega⟩
  exact nI_pred b
theorem nI_ex {x : Int32} {m : Nat} (hm : m < 2 ^ 31) (h : 0 ≤ x ∧ x ≤ nI m) : ∃ j, j ≤ m ∧ x = nI j := by
  obtain ⟨j, hj, rfl⟩ := nI_of (show ¬ x < 0 from fun q => absurd h.1 (Int32.not_le.mpr q))
  exact ⟨j, (nI_leI hj hm).mp h.2, rfl⟩
theorem nI_nn {a : Nat} (h : a < 2 ^ 31) : (0 : Int32) ≤ nI a := nI_pos' h
theorem nI_inj {a b : Nat} (ha : a < 2 ^ 31) (hb : b < 2 ^ 31) (h : nI a = nI b) : a = b := (nI_eq ha hb).mp h
theorem nI_n1 {a : Nat} (h : a < 2 ^ 31) : ¬ nI a = (-1) := fun q => by
  have h1 := nI_nn h
  rw [q] at h1
  exact absurd h1 (by decide)
theorem nI_lt0 {a : Nat} (h : a < 2 ^ 31) : ¬ nI a < 0 := nI_pos h
theorem nI_and31 {a : Nat} (h : a < 32) : nI a &&& 31 = nI a := by
  have : ∀ a, a < 32 → nI a &&& 31 = nI a := by decide
  exact this a h
theorem nI_shl {a : Nat} (h : a < 31) : (1 : Int32) <<< (nI a &&& 31) = nI (2 ^ a) := by
  have : ∀ a, a < 31 → (1 : Int32) <<< (nI a &&& 31) = nI (2 ^ a) := by decide
  exact this a h
theorem nI_or (a b : Nat) : nI a ||| nI b = nI (a ||| b) := by
  apply Int32.toBitVec_inj.mp
  show (BitVec.ofNat 32 a ||| BitVec.ofNat 32 b) = BitVec.ofNat 32 (a ||| b)
  apply BitVec.eq_of_toNat_eq
  simp [BitVec.toNat_or, Nat.or_mod_two_pow]
theorem nI_and (a b : Nat) : nI a &&& nI b = nI (a &&& b) := by
  apply Int32.toBitVec_inj.mp
  show (BitVec.ofNat 32 a &&& BitVec.ofNat 32 b) = BitVec.ofNat 32 (a &&& b)
  apply BitVec.eq_of_toNat_eq
  simp [BitVec.toNat_and, Nat.and_mod_two_pow]
theorem nI_shr {b q : Nat} (hb : b < 2 ^ 31) (hq : q < 31) : nI b >>> (nI q &&& 31) = nI (b / 2 ^ q) := by
  rw [nI_and31 (by omega)]
  refine pk_shrN hb _ q ?_
  have : ∀ q, q < 31 → ((nI q).toBitVec.smod 32).toNat = q := by decide
  exact this q hq
theorem bit_of (b q : Nat) : (b / 2 ^ q) % 2 = 1 ↔ b.testBit q = true := by
  rw [Nat.testBit_eq_decide_div_mod_eq]; simp
theorem nI_bit {b q : Nat} (hb : b < 2 ^ 31) (hq : q < 31) : (nI b >>> (nI q &&& 31)) &&& 1 = 1 ↔ b.testBit q = true := by
  rw [nI_shr hb hq, show (1 : Int32) = nI 1 from rfl, nI_and, nI_eq (by have := Nat.and_le_right (n := b / 2 ^ q) (m := 1); omega) (by decide), Nat.and_one_is_mod, bit_of]
-- the same with numbers as nI
theorem n_and31 {a : Nat} (h : a < 32) : nI a &&& nI 31 = nI a := nI_and31 h
theorem n_shl {a : Nat} (h : a < 31) : nI 1 <<< (nI a &&& nI 31) = nI (2 ^ a) := nI_shl h
theorem n_shr {b q : Nat} (hb : b < 2 ^ 31) (hq : q < 31) : nI b >>> (nI q &&& nI 31) = nI (b / 2 ^ q) := nI_shr hb hq
theorem n_bit {b q : Nat} (hb : b < 2 ^ 31) (hq : q < 31) : (nI b >>> (nI q &&& nI 31)) &&& nI 1 = nI 1 ↔ b.testBit q = true := nI_bit hb hq
theorem n_ne {a b : Nat} (ha : a < 2 ^ 31) (hb : b < 2 ^ 31) (h : a ≠ b) : (nI a = nI b) = False := by
  simp only [eq_iff_iff, iff_false]; exact fun q => h (nI_inj ha hb q)
theorem n_n1 {a : Nat} (h : a < 2 ^ 31) : (nI a = -nI 1) = False := by
  simp only [eq_iff_iff, iff_false]; exact nI_n1 h
theorem n_lt0 {a : Nat} (h : a < 2 ^ 31) : (nI a < nI 0) = False := by
  simp only [eq_iff_iff, iff_false]; exact nI_lt0 h
theorem n_sub1 (a : Nat) : nI (a + 1) - nI 1 = nI a := nI_pred a
theorem n_01 : (nI 0 = nI 1) = False := by decide
theorem n_10 : (nI 1 = nI 0) = False := by decide
theorem n_in (u : zS) (a x y : Int32) : F_M_in u a.toInt64 x.toInt64 y.toInt64 = some (if x ≤ a ∧ a ≤ y then nI 1 else nI 0) := in32 u a x y
theorem n_shl2 {a : Nat} (h : a < 31) : nI 1 <<< nI a = nI (2 ^ a) := by
  have := nI_shl h
  rwa [nI_and31 (by omega)] at this
theorem n_shr2 {b q : Nat} (hb : b < 2 ^ 31) (hq : q < 31) : nI b >>> nI q = nI (b / 2 ^ q) := by
  have := nI_shr hb hq
  rwa [nI_and31 (by omega)] at this
theorem n_bit2 {b q : Nat} (hb : b < 2 ^ 31) : (nI (b / 2 ^ q) &&& nI 1 = nI 1) ↔ b.testBit q = true := by
  rw [nI_and, nI_eq (by have := Nat.and_le_right (n := b / 2 ^ q) (m := 1); omega) (by decide), Nat.and_one_is_mod, bit_of]
theorem tb_or (b n q : Nat) : (b ||| 2 ^ n).testBit q = (b.testBit q || decide (q = n)) := by
  rw [Nat.testBit_or, Nat.testBit_two_pow]
  congr 1
  simp [eq_comm]
theorem or_lt {b n : Nat} (hb : b ≤ 63) (hn : n < 6) : b ||| 2 ^ n ≤ 63 := by
  have h1 : b ||| 2 ^ n < 2 ^ 6 := Nat.or_lt_two_pow (by omega) (Nat.pow_lt_pow_right (by decide) hn)
  omega
