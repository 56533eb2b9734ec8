-- ===== sets of people, of posts =====
theorem nI_ev : ∀ p : Fin 8, ((1 : Int32) <<< (nI p.1 &&& 31)) - 1 = nI (2 ^ p.1 - 1) := by decide +kernel
/-- those of a that are not of b -/
def zmi (a b : Nat) : Nat := a &&& (127 ^^^ b)
theorem tb127 (j : Nat) : Nat.testBit 127 j = decide (j < 7) := by
  rw [show (127 : Nat) = 2 ^ 7 - 1 from rfl, Nat.testBit_two_pow_sub_one]
theorem tb_hi {a j : Nat} (ha : a < 128) (hj : 7 ≤ j) : a.testBit j = false := by
  apply Nat.testBit_lt_two_pow
  exact Nat.lt_of_lt_of_le ha (show 2 ^ 7 ≤ 2 ^ j from Nat.pow_le_pow_right (by decide) hj)
theorem tb_mi {a b : Nat} (ha : a < 128) (j : Nat) : (zmi a b).testBit j = (a.testBit j && !b.testBit j) := by
  unfold zmi
  rw [Nat.testBit_and, Nat.testBit_xor, tb127]
  by_cases hj : j < 7
  · rw [decide_eq_true hj]
    cases a.testBit j <;> cases b.testBit j <;> rfl
  · rw [tb_hi ha (by omega)]; rfl
theorem zmi_lt {a b : Nat} (ha : a < 128) : zmi a b < 128 := Nat.lt_of_le_of_lt Nat.and_le_left ha
theorem nI_mi {a b : Nat} (ha : a < 128) (hb : b < 2 ^ 31) : nI a &&& (nI b ^^^ (-1)) = nI (zmi a b) := by
  have h1 : (nI b ^^^ (-1)) = nI (b ^^^ (2 ^ 32 - 1)) := by
    apply Int32.toBitVec_inj.mp
    show (BitVec.ofNat 32 b ^^^ BitVec.ofNat 32 (2 ^ 32 - 1)) = BitVec.ofNat 32 (b ^^^ (2 ^ 32 - 1))
    apply BitVec.eq_of_toNat_eq
    simp [BitVec.toNat_xor, Nat.xor_mod_two_pow]
  rw [h1, nI_and]
  congr 1
  apply Nat.eq_of_testBit_eq
  intro j
  rw [tb_mi ha, Nat.testBit_and, Nat.testBit_xor, Nat.testBit_two_pow_sub_one]
  by_cases hj : j < 32
  · rw [decide_eq_true hj]
    cases a.testBit j <;> cases b.testBit j <;> rfl
  · rw [tb_hi ha (by omega)]; rfl
theorem tb_all {p j : Nat} : (2 ^ p - 1).testBit j = decide (j < p) := Nat.testBit_two_pow_sub_one p j
theorem p2_le {p : Nat} (h : p ≤ 7) : 2 ^ p ≤ 128 := Nat.pow_le_pow_right (n := 2) (by decide) h
theorem p2_pos (p : Nat) : 0 < 2 ^ p := Nat.two_pow_pos p
theorem tb_lt {a p j : Nat} (ha : a < 2 ^ p) (hj : p ≤ j) : a.testBit j = false := by
  apply Nat.testBit_lt_two_pow
  exact Nat.lt_of_lt_of_le ha (Nat.pow_le_pow_right (by decide) hj)
theorem or_p2 {a p w : Nat} (ha : a < 2 ^ p) (hw : w < p) : a ||| 2 ^ w < 2 ^ p := Nat.or_lt_two_pow ha (Nat.pow_lt_pow_right (by decide) hw)
theorem n_shl1 {w : Nat} (h : w < 31) : (1 : Int32) <<< (nI w &&& 31) = nI (2 ^ w) := nI_shl h
theorem n_bit0 {b q : Nat} (hb : b < 2 ^ 31) (hq : q < 31) : ((nI b >>> (nI q &&& 31)) &&& 1 = 0) ↔ b.testBit q = false := by
  rw [nI_shr hb hq, show (1 : Int32) = nI 1 from rfl, show (0 : Int32) = nI 0 from rfl, nI_and, nI_eq (by have := Nat.and_le_right (n := b / 2 ^ q) (m := 1); omega) (by decide), Nat.and_one_is_mod]
  have := bit_of b q
  constructor
  · intro h
    cases hb : b.testBit q with
    | false => rfl
    | true => rw [hb] at this; have := this.mpr rfl; omega
  · intro h
    rw [h] at this
    have h2 : ¬ (b / 2 ^ q) % 2 = 1 := fun q => by have := this.mp q; cases this
    omega
section S
variable {n p yr tx rl tp c : Nat} {μ : zS}
theorem X_every (hf : zFr μ) (hp : μ.2.1 0 2 = nI p) (hp7 : p ≤ 7) : F_X_everyone μ 0 = some (nI (2 ^ p - 1)) := by
  unfold F_X_everyone
  rw [gI_0 hf, zb_some, hp, nI_ev ⟨p, by omega⟩]
theorem X_crew {a : Int32} (hf : zFr μ) (hp : μ.2.1 0 2 = nI p) (hp7 : p ≤ 7) : F_X_isCrewSet μ 0 a = some (if nI 0 ≤ a ∧ a < nI (2 ^ p) then nI 1 else nI 0) := by
  have h2 := p2_le hp7
  have h3 := p2_pos p
  unfold F_X_isCrewSet
  by_cases h1 : a < 0
  · rw [if_pos h1, if_neg (fun z => absurd z.1 (Int32.not_le.mpr h1))]; rfl
  · rw [if_neg h1, fo_0 hf, zb_some, X_every hf hp hp7, zb_some]
    obtain ⟨a', ha', rfl⟩ := nI_of h1
    by_cases h4 : a' < 2 ^ p
    · rw [if_neg (show ¬ nI (2 ^ p - 1) < nI a' by rw [nI_ltI (by omega) ha']; omega), if_pos ⟨nI_nn ha', nI_lt h4 (by omega)⟩]; rfl
    · rw [if_pos (show nI (2 ^ p - 1) < nI a' by rw [nI_ltI (by omega) ha']; omega), if_neg (fun z => h4 ((nI_ltI ha' (by omega)).mp z.2))]; rfl
theorem M_away {a : Int32} (hf : zFr μ) (hp : μ.2.1 73 4 = nI p) (hp7 : p ≤ 7) : F_M_areAway μ 73 a = some (if nI 0 ≤ a ∧ a < nI (2 ^ p) then nI 1 else nI 0) := by
  have h2 := p2_le hp7
  have h3 := p2_pos p
  unfold F_M_areAway
  by_cases h1 : a < 0
  · rw [if_pos h1, if_neg (fun z => absurd z.1 (Int32.not_le.mpr h1))]; rfl
  · rw [if_neg h1, gI_73 hf, zb_some, hp]
    obtain ⟨a', ha', rfl⟩ := nI_of h1
    rw [nI_shr ha' (by omega)]
    have hle : a' / 2 ^ p ≤ a' := Nat.div_le_self _ _
    by_cases h4 : a' < 2 ^ p
    · rw [if_pos (show nI (a' / 2 ^ p) = 0 by rw [Nat.div_eq_of_lt h4]; rfl), if_pos ⟨nI_nn ha', nI_lt h4 (by omega)⟩]; rfl
    · have h5 : 1 ≤ a' / 2 ^ p := (Nat.le_div_iff_mul_le h3).mpr (by omega)
      rw [if_neg (show ¬ nI (a' / 2 ^ p) = 0 from fun z => by have z2 : a' / 2 ^ p = 0 := nI_inj (by omega) (by decide) z; omega), if_neg (fun z => h4 ((nI_ltI ha' (by omega)).mp z.2))]; rfl
end S
