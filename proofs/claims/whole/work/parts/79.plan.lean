-- ===== the class's plan =====
theorem yI_add {a : Nat} {B : Int} (h : 0 ≤ B) : nI a + yI B = yI (a + B) := by
  rw [yI_p h, yI_p (show (0 : Int) ≤ a + B by omega), nI_add]
  congr 1
  omega
theorem yI_inj {A B : Int} (hA : -1 ≤ A) (hB : -1 ≤ B) (hA2 : A < 2 ^ 31) (hB2 : B < 2 ^ 31) : yI A = yI B ↔ A = B := by
  refine ⟨fun h => ?_, fun h => by rw [h]⟩
  rcases (show A < 0 ∨ 0 ≤ A by omega) with a | a
  · rw [yI_m a] at h
    have := (yI_1 hB2).mp h.symm
    omega
  · rcases (show B < 0 ∨ 0 ≤ B by omega) with b | b
    · rw [yI_m b] at h
      have := (yI_1 hA2).mp h
      omega
    · rw [yI_p a, yI_p b] at h
      have := nI_inj (by omega) (by omega) h
      omega
theorem yI_toInt {B : Int} (h : -1 ≤ B) (h2 : B < 2 ^ 31) : (yI B).toInt = B := by
  rcases (show B < 0 ∨ 0 ≤ B by omega) with b | b
  · rw [yI_m b, show (-1 : Int32).toInt = -1 by decide]; omega
  · rw [yI_p b, nI_toInt (by omega)]; omega
theorem yI_max {A B : Int} (hA : -1 ≤ A) (hB : -1 ≤ B) (hA2 : A < 2 ^ 31) (hB2 : B < 2 ^ 31) : zmax (yI A) (yI B) = yI (if A < B then B else A) := by
  unfold zmax
  by_cases h : A < B
  · rw [if_pos h, if_pos (by rw [fa_lt, yI_toInt hA hA2, yI_toInt hB hB2]; exact h)]
  · rw [if_neg h, if_neg (by rw [fa_lt, yI_toInt hA hA2, yI_toInt hB hB2]; exact h)]
/-- how many are in a set -/
def ypc (a : Nat) : Nat := zct a.testBit 7
theorem ypc_le (a : Nat) : ypc a ≤ 7 := zct_le _ 7
theorem bitC_all : ∀ a : Fin 128, F_Integer_bitCount z00 (nI a.1) = some (nI (ypc a.1)) := by decide +kernel
theorem X_bits {u : zS} {a : Nat} (h : a < 128) : F_Integer_bitCount u (nI a) = some (nI (ypc a)) := bitC_all ⟨a, h⟩
theorem bitM_all : ∀ a : Fin 128, F_M_bitsOf z00 (nI a.1) = some (nI (ypc a.1)) := by decide +kernel
theorem M_bits {u : zS} {a : Nat} (h : a < 128) : F_M_bitsOf u (nI a) = some (nI (ypc a)) := bitM_all ⟨a, h⟩
theorem nI_xor (a b : Nat) : nI a ^^^ nI b = nI (a ^^^ b) := by
  apply Int32.toBitVec_inj.mp
  show (BitVec.ofNat 32 a ^^^ BitVec.ofNat 32 b) = BitVec.ofNat 32 (a ^^^ b)
  apply BitVec.eq_of_toNat_eq
  simp [BitVec.toNat_xor, Nat.xor_mod_two_pow]
theorem xor_128 {a b : Nat} (ha : a < 128) (hb : b < 128) : a ^^^ b < 128 := Nat.xor_lt_two_pow (n := 7) ha hb
theorem zmi_0 {f T : Nat} (hf : f < 128) : zmi f T = 0 ↔ ∀ j, f.testBit j = true → T.testBit j = true := by
  constructor
  · intro h j hj
    have := tb_mi (b := T) hf j
    rw [h, Nat.zero_testBit, hj] at this
    cases ht : T.testBit j with
    | true => rfl
    | false => rw [ht] at this; cases this
  · intro h
    apply Nat.eq_of_testBit_eq
    intro j
    rw [tb_mi hf, Nat.zero_testBit]
    cases hj : f.testBit j with
    | false => rfl
    | true => rw [h j hj]; rfl
theorem zmi_le {f T : Nat} (hf : f < 128) (h : zmi f T = 0) : f ≤ T := by
  have : f &&& T = f := by
    apply Nat.eq_of_testBit_eq
    intro j
    rw [Nat.testBit_and]
    cases hj : f.testBit j with
    | false => rfl
    | true => rw [(zmi_0 hf).mp h j hj]; rfl
  rw [← this]
  exact Nat.and_le_right
/-- the class's gains of a plan -/
def yPm (C : Nat → Nat → Bool) (g : Nat → Nat → Nat) (mu : Nat → Bool) (n p T : Nat) (e : Nat → Nat → Int32) : Prop := n ≤ 6 ∧ p ≤ 7 ∧ T < 2 ^ p ∧ e 9 0 = nI n ∧ (∃ mb, mb ≤ 63 ∧ e 9 1 = nI mb ∧ ∀ q, q < n → mb.testBit q = mu q) ∧ ∀ q, q < n → ∀ w, w < p → e 10 (7 * q + w) = if T.testBit w = true ∧ C w q = true then nI (g w q) else (-1)
theorem yPm_c {C : Nat → Nat → Bool} {g : Nat → Nat → Nat} {mu : Nat → Bool} {n p T : Nat} {e e' : Nat → Nat → Int32} (h : yPm C g mu n p T e) (h1 : e' 9 0 = e 9 0) (h2 : e' 9 1 = e 9 1) (h3 : ∀ k, e' 10 k = e 10 k) : yPm C g mu n p T e' := by
  obtain ⟨a1, a2, a3, a4, ⟨mb, b1, b2, b3⟩, a6⟩ := h
  exact ⟨a1, a2, a3, h1.trans a4, ⟨mb, b1, h2.trans b2, b3⟩, fun q hq w hw => (h3 _).trans (a6 q hq w hw)⟩
/-- some free ones of those there -/
def yfr (T m q f : Nat) : Prop := f < 128 ∧ zmi f T = 0 ∧ ypc (T ^^^ f) ≤ m + q
/-- the class's row of bests, at a post -/
def yBq (C : Nat → Nat → Bool) (g : Nat → Nat → Nat) (mu : Nat → Bool) (n p T m q : Nat) (e : Nat → Nat → Int32) : Prop := ∀ f, yfr T m q f → e 11 (128 * q + f) = yI (yD C g n p mu (n - q) f.testBit)
theorem rm_tb {f w : Nat} (hf : f < 128) : (zmi f (2 ^ w)).testBit = yrm f.testBit w := by
  funext j
  rw [tb_mi hf, Nat.testBit_two_pow]
  unfold yrm
  congr 2
  by_cases h : w = j
  · subst h; simp
  · rw [decide_eq_false h, eq_comm, beq_eq_false_iff_ne]; omega
section S
variable {C : Nat → Nat → Bool} {g : Nat → Nat → Nat} {mu : Nat → Bool} {n p T m : Nat} {u : zS}
theorem yfr_lt {q f : Nat} (hp : p ≤ 7) (hT : T < 2 ^ p) (h : yfr T m q f) : f < 2 ^ p := Nat.lt_of_le_of_lt (zmi_le h.1 h.2.1) hT
theorem yfr_s {q f : Nat} (h : yfr T m q f) : yfr T m (q + 1) f := ⟨h.1, h.2.1, by have := h.2.2; omega⟩
theorem yfr_rm {q f w : Nat} (hT : T < 128) (h : yfr T m q f) (hw : f.testBit w = true) (hw7 : w < 7) : yfr T m (q + 1) (zmi f (2 ^ w)) := by
  obtain ⟨h1, h2, h3⟩ := h
  have h4 := (zmi_0 h1).mp h2
  refine ⟨zmi_lt h1, ?_, ?_⟩
  · rw [zmi_0 (zmi_lt h1)]
    intro j hj
    rw [tb_mi h1, Bool.and_eq_true] at hj
    exact h4 j hj.1
  · have : ypc (T ^^^ zmi f (2 ^ w)) = ypc (T ^^^ f) + 1 := by
      unfold ypc
      refine zct_a1 hw7 (fun j _ => ?_) ?_
      · rw [Nat.testBit_xor, Nat.testBit_xor, tb_mi h1, Nat.testBit_two_pow]
        by_cases hjw : w = j
        · subst hjw; rw [hw, h4 w hw]; simp
        · rw [decide_eq_false hjw, show (j == w) = false by rw [beq_eq_false_iff_ne]; omega]
          simp
      · rw [Nat.testBit_xor, hw, h4 w hw]; rfl
    omega
theorem yDlt (hg : ∀ w q, g w q ≤ 9801) (hn : n ≤ 6) (k : Nat) (hk : k ≤ n) (F : Nat → Bool) : yD C g n p mu k F < 2 ^ 31 := by
  have := yD_le (C := C) (n := n) (p := p) (mu := mu) hg k F
  omega
theorem X_worth0 {q f : Nat} (hf : zFr u) (hm : yPm C g mu n p T u.2.1) (hq : q < n) (hb : yBq C g mu n p T m (q + 1) u.2.1) (h : yfr T m q f) : F_Plan_worthWith u 9 (nI q) (nI f) (-1) = some (yI (yDj f.testBit C g mu q (yD C g n p mu (n - (q + 1))) 0)) := by
  obtain ⟨hn6, hp7, hT, h90, ⟨mb, b1, b2, b3⟩, h10⟩ := hm
  have h128 := h.1
  unfold F_Plan_worthWith
  rw [if_pos rfl, gI_9 hf, zb_some, b2]
  show _ = some (yI (if mu q = true then -1 else yD C g n p mu (n - (q + 1)) f.testBit))
  by_cases hmu : mu q = true
  · rw [if_pos hmu, if_pos ((nI_bit (by omega) (by omega)).mpr (by rw [b3 q hq]; exact hmu))]
    rfl
  · rw [if_neg hmu, if_neg (show ¬ ((nI mb >>> (nI q &&& 31)) &&& 1) = 1 from fun z => hmu (by rw [← b3 q hq]; exact (nI_bit (by omega) (by omega)).mp z)), gR_9_3 hf, zb_some, show nI q + 1 = nI (q + 1) from nI_add q 1, show (128 : Int32) = nI 128 from rfl, pk_mul, nI_add, aI_11 hf (by omega), zb_some, show (q + 1) * 128 + f = 128 * (q + 1) + f by omega, hb f (yfr_s h)]
theorem X_worth {q f w : Nat} (hg : ∀ w q, g w q ≤ 9801) (hf : zFr u) (hm : yPm C g mu n p T u.2.1) (hq : q < n) (hb : yBq C g mu n p T m (q + 1) u.2.1) (h : yfr T m q f) (hw : f.testBit w = true) (hwp : w < p) : F_Plan_worthWith u 9 (nI q) (nI f) (nI w) = some (yI (ywc f.testBit C g q (yD C g n p mu (n - (q + 1))) w)) := by
  obtain ⟨hn6, hp7, hT, h90, ⟨mb, b1, b2, b3⟩, h10⟩ := hm
  have hT7 : T < 128 := Nat.lt_of_lt_of_le hT (p2_le hp7)
  have h128 := h.1
  have hrm := yfr_rm hT7 h hw (by omega)
  have hTw := (zmi_0 h.1).mp h.2.1 w hw
  have hrl := hrm.1
  have hDl := yDlt (C := C) (p := p) (mu := mu) hg hn6 (n - (q + 1)) (by omega) (zmi f (2 ^ w)).testBit
  have hDg := yD_ge (C := C) (g := g) (n := n) (p := p) (mu := mu) (n - (q + 1)) (zmi f (2 ^ w)).testBit
  unfold F_Plan_worthWith
  rw [if_neg (nI_n1 (by omega)), gR_9_2 hf, zb_some, show (7 : Int32) = nI 7 from rfl, pk_mul, nI_add, aI_10 hf (by omega), zb_some, show q * 7 + w = 7 * q + w by omega, h10 q hq w hwp, gR_9_3 hf, zb_some, n_shl1 (by omega), nI_mi h.1 (by have := Nat.pow_le_pow_right (n := 2) (by decide) (show w ≤ 7 by omega); omega), show nI q + 1 = nI (q + 1) from nI_add q 1, show (128 : Int32) = nI 128 from rfl, pk_mul, nI_add, aI_11 hf (by omega), zb_some, show (q + 1) * 128 + zmi f (2 ^ w) = 128 * (q + 1) + zmi f (2 ^ w) by omega, hb _ hrm]
  unfold ywc
  rw [← rm_tb h.1]
  by_cases hc : C w q = true
  · rw [if_pos (show T.testBit w = true ∧ C w q = true from ⟨hTw, hc⟩), if_pos (show f.testBit w = true ∧ C w q = true from ⟨hw, hc⟩), if_neg (show ¬ nI (g w q) = -1 from nI_n1 (by have := hg w q; omega))]
    by_cases hd : yD C g n p mu (n - (q + 1)) (zmi f (2 ^ w)).testBit < 0
    · rw [if_pos hd, if_pos ((yI_1 hDl).mpr hd)]; rfl
    · rw [if_neg hd, if_neg (fun z => hd ((yI_1 hDl).mp z)), yI_add (by omega)]
  · rw [if_neg (show ¬ (T.testBit w = true ∧ C w q = true) from fun z => hc z.2), if_neg (show ¬ (f.testBit w = true ∧ C w q = true) from fun z => hc z.2), if_pos rfl]; rfl
theorem X_most {q f : Nat} (hg : ∀ w q, g w q ≤ 9801) (hf : zFr u) (hm : yPm C g mu n p T u.2.1) (hq : q < n) (hb : yBq C g mu n p T m (q + 1) u.2.1) (h : yfr T m q f) : F_Plan_most u 9 (nI q) (nI f) = some (yI (yD C g n p mu (n - q) f.testBit)) := by
  have hm' := hm
  obtain ⟨hn6, hp7, hT, -⟩ := hm'
  have hfl := yfr_lt hp7 hT h
  have h128 := h.1
  have hDk := yD_ge (C := C) (g := g) (n := n) (p := p) (mu := mu) (n - (q + 1))
  have hDl := yD_le (C := C) (n := n) (p := p) (mu := mu) hg (n - (q + 1))
  have e1 : yD C g n p mu (n - q) f.testBit = yDj f.testBit C g mu q (yD C g n p mu (n - (q + 1))) p := by
    rw [show n - q = (n - (q + 1)) + 1 by omega]
    show yDj f.testBit C g mu (n - ((n - (q + 1)) + 1)) _ p = _
    rw [show n - ((n - (q + 1)) + 1) = q by omega]
  rw [e1]
  have hge := fun j => yDj_ge (F := f.testBit) (C := C) (g := g) (mu := mu) (q := q) hDk j
  have hle := fun j => yDj_le (F := f.testBit) (C := C) (g := g) (mu := mu) (q := q) (m := 9801 * ((n - (q + 1) : Nat) : Int)) hDl (by omega) (fun w => hg w q) j
  unfold F_Plan_most
  rw [fo_9 hf, zb_some, X_worth0 hf hm hq hb h, zb_some]
  refine fix2_t 7 (fun i => yI (yDj f.testBit C g mu q (yD C g n p mu (n - (q + 1))) (min i p))) (fun i => nI i) ?_ ?_ (zFU_lt (by omega))
  · intro r i hi
    rw [if_neg (show ¬ (7 : Int32) ≤ nI i by rw [show (7 : Int32) = nI 7 from rfl, nI_leI (by omega) (by omega)]; omega), show nI i + 1 = nI (i + 1) from nI_add i 1]
    by_cases hb1 : f.testBit i = true
    · have hip : i < p := by
        apply Classical.byContradiction
        intro z
        rw [tb_lt hfl (by omega)] at hb1; cases hb1
      rw [if_pos ((nI_bit (by omega) (by omega)).mpr hb1), zb_some, X_worth hg hf hm hq hb h hb1 hip, zb_some, Nat.min_eq_left (by omega), Nat.min_eq_left (by omega)]
      have hwl := hle (i + 1)
      have hwc : ywc f.testBit C g q (yD C g n p mu (n - (q + 1))) i ≤ yDj f.testBit C g mu q (yD C g n p mu (n - (q + 1))) (i + 1) := ywc_le (Nat.lt_succ_self i)
      have hl := hle i
      rw [yI_max (hge i) (ywc_ge hDk) (by omega) (by omega)]
      rfl
    · rw [if_neg (show ¬ ((nI f >>> (nI i &&& 31)) &&& 1) = 1 from fun z => hb1 ((nI_bit (by omega) (by omega)).mp z))]
      by_cases hip : i < p
      · rw [Nat.min_eq_left (by omega), Nat.min_eq_left (by omega)]
        have e2 : yDj f.testBit C g mu q (yD C g n p mu (n - (q + 1))) (i + 1) = yDj f.testBit C g mu q (yD C g n p mu (n - (q + 1))) i := by
          show (if yDj f.testBit C g mu q (yD C g n p mu (n - (q + 1))) i < ywc f.testBit C g q (yD C g n p mu (n - (q + 1))) i then _ else _) = _
          have hwc : ywc f.testBit C g q (yD C g n p mu (n - (q + 1))) i = -1 := by
            unfold ywc
            rw [if_neg (fun z => hb1 z.1)]
          have := hge i
          rw [hwc, if_neg (by omega)]
        rw [e2]
      · rw [Nat.min_eq_right (by omega), Nat.min_eq_right (by omega)]
  · intro r
    rw [if_pos (show (7 : Int32) ≤ nI 7 by decide), Nat.min_eq_right hp7]
end S
