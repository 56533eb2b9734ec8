-- ===== too few =====
/-- the best of the sets that have too few, behind the first so many -/
def yT (C : Nat → Nat → Bool) (n p mb : Nat) (F : Nat → Bool) : Nat → Int32 × Nat
  | 0 => (-1, 7)
  | i + 1 => if zmi (i + 1) mb = 0 ∧ ypc (i + 1) < (yT C n p mb F i).2 ∧ yrc C n p (i + 1) F < ypc (i + 1) then (nI (i + 1), ypc (i + 1)) else yT C n p mb F i
section H
variable {C : Nat → Nat → Bool} {n p mb : Nat} {mu F : Nat → Bool}
theorem yT_s (i : Nat) : yT C n p mb F (i + 1) = if zmi (i + 1) mb = 0 ∧ ypc (i + 1) < (yT C n p mb F i).2 ∧ yrc C n p (i + 1) F < ypc (i + 1) then (nI (i + 1), ypc (i + 1)) else yT C n p mb F i := rfl
theorem ypc_z {S k : Nat} (h : S < 2 ^ k) (hk : k ≤ 7) : ypc S = zct S.testBit k := zct_z hk (fun i h1 _ => tb_lt h h1)
theorem ypc_6 {S : Nat} (h : S < 64) : ypc S ≤ 6 := by
  rw [ypc_z (k := 6) h (by decide)]
  exact zct_le _ 6
theorem yT_ok : ∀ i, i < 64 → ((yT C n p mb F i).1 = (-1) ∧ (yT C n p mb F i).2 = 7) ∨ ∃ S, 1 ≤ S ∧ S ≤ i ∧ (yT C n p mb F i).1 = nI S ∧ (yT C n p mb F i).2 = ypc S ∧ zmi S mb = 0 ∧ yrc C n p S F < ypc S
  | 0, _ => Or.inl ⟨rfl, rfl⟩
  | i + 1, hi => by
    rw [yT_s]
    by_cases h : zmi (i + 1) mb = 0 ∧ ypc (i + 1) < (yT C n p mb F i).2 ∧ yrc C n p (i + 1) F < ypc (i + 1)
    · rw [if_pos h]
      exact Or.inr ⟨i + 1, by omega, Nat.le_refl _, rfl, rfl, h.1, h.2.2⟩
    · rw [if_neg h]
      rcases yT_ok i (by omega) with z | ⟨S, z1, z2, z3⟩
      · exact Or.inl z
      · exact Or.inr ⟨S, z1, by omega, z3⟩
theorem yT_n : ∀ i, i < 64 → ((yT C n p mb F i).1 = (-1) ↔ ∀ S, 1 ≤ S → S ≤ i → ¬ (zmi S mb = 0 ∧ yrc C n p S F < ypc S))
  | 0, _ => ⟨fun _ S h1 h2 => by omega, fun _ => rfl⟩
  | i + 1, hi => by
    have ih := yT_n i (by omega)
    rw [yT_s]
    by_cases h : zmi (i + 1) mb = 0 ∧ ypc (i + 1) < (yT C n p mb F i).2 ∧ yrc C n p (i + 1) F < ypc (i + 1)
    · rw [if_pos h]
      constructor
      · intro z; exact absurd z (nI_n1 (by omega))
      · intro z; exact absurd ⟨h.1, h.2.2⟩ (z (i + 1) (by omega) (Nat.le_refl _))
    · rw [if_neg h, ih]
      constructor
      · intro z S h1 h2
        by_cases hS : S = i + 1
        · subst hS
          rintro ⟨y1, y2⟩
          rcases yT_ok (C := C) (n := n) (p := p) (mb := mb) (F := F) i (by omega) with w | ⟨S', w1, w2, w3, w4, w5, w6⟩
          · apply h
            refine ⟨y1, ?_, y2⟩
            rw [w.2]
            have := ypc_6 (S := i + 1) (by omega)
            omega
          · exact z S' w1 w2 ⟨w5, w6⟩
        · exact z S h1 (by omega)
      · intro z S h1 h2
        exact z S h1 (by omega)
theorem yT_st {i : Nat} (h : mb ≤ i) (hi : i < 64) : yT C n p mb F i = yT C n p mb F mb := by
  induction i with
  | zero => rw [show mb = 0 by omega]
  | succ i ih =>
    by_cases hm : mb = i + 1
    · rw [hm]
    · rw [yT_s, if_neg]
      · exact ih (by omega) (by omega)
      · rintro ⟨z, -⟩
        have := zmi_le (show i + 1 < 128 by omega) z
        omega
theorem yrc_cg {S : Nat} {F F' : Nat → Bool} (h : ∀ w, w < p → F w = F' w) : yrc C n p S F = yrc C n p S F' := zct_cg (fun w hw => by
  show (yrb C n S w && F w) = (yrb C n S w && F' w)
  rw [h w hw])
/-- none has too few: Hall's condition -/
theorem yTH (hn : n ≤ 6) (hmb : mb < 2 ^ n) (hmu : ∀ q, q < n → mb.testBit q = mu q) : (yT C n p mb F mb).1 = (-1) ↔ yH C n p mu 0 F := by
  have h64 := p2_6 hn
  rw [yT_n mb (by omega)]
  constructor
  · intro h S hS
    by_cases h0 : S = 0
    · subst h0
      have : zct (Nat.testBit 0) n = 0 := zct_0 (fun i _ => Nat.zero_testBit i)
      omega
    · have hsub : zmi S mb = 0 := by
        rw [zmi_0 (by have := hS.1; omega)]
        intro j hj
        have hjn : j < n := by
          apply Classical.byContradiction
          intro z
          rw [tb_lt hS.1 (by omega)] at hj; cases hj
        rw [hmu j hjn]
        exact (hS.2 j hj).1
      have hle := zmi_le (by have := hS.1; omega) hsub
      have := h S (by omega) hle
      rw [← ypc_z hS.1 (by omega)]
      apply Classical.byContradiction
      intro z
      exact this ⟨hsub, by omega⟩
  · intro h S h1 h2 ⟨z1, z2⟩
    have hS : S < 2 ^ n := by omega
    have := h S ⟨hS, fun q hq => by
      have hqn : q < n := by
        apply Classical.byContradiction
        intro z
        rw [tb_lt hS (by omega)] at hq; cases hq
      refine ⟨?_, Nat.zero_le q⟩
      rw [← hmu q hqn]
      exact (zmi_0 (by omega)).mp z1 q hq⟩
    rw [← ypc_z hS (by omega)] at this
    omega
theorem ypc_and {S T : Nat} (hp : p ≤ 7) (hF : ∀ w, w < p → T.testBit w = F w) : ypc (ymk (yrb C n S) p &&& T) = yrc C n p S F := by
  unfold ypc
  rw [zct_z (m := p) hp]
  · refine zct_cg (fun w hw => ?_)
    rw [Nat.testBit_and, ymk_tb, decide_eq_true hw, Bool.true_and, hF w hw]
  · intro i h1 h2
    rw [Nat.testBit_and, ymk_tb, decide_eq_false (by omega)]
    rfl
theorem X_few {u : zS} {T : Nat} (hf : zFr u) (hc : yCv C mu n p u.2.1) (hmb : mb < 2 ^ n) (h60 : u.2.1 6 0 = nI mb) (hF : ∀ w, w < p → T.testBit w = F w) : F_Cover_tooFew u 6 (nI T) = some (yT C n p mb F mb).1 := by
  obtain ⟨hn6, hp7, -, h8⟩ := hc
  have h64 := p2_6 hn6
  unfold F_Cover_tooFew
  refine fix3_t mb (fun i => (yT C n p mb F i).1) (fun i => nI (yT C n p mb F i).2) (fun i => nI (i + 1)) ?_ ?_ (zFU_lt (by omega))
  · intro r i hi
    rw [gI_6 hf, zb_some, h60, if_neg (show ¬ nI mb < nI (i + 1) by rw [nI_ltI (by omega) (by omega)]; omega), if_neg (show ¬ (64 : Int32) ≤ nI (i + 1) by rw [show (64 : Int32) = nI 64 from rfl, nI_leI (by omega) (by omega)]; omega), zb_some, nI_mi (by omega) (by omega), show nI (i + 1) + 1 = nI (i + 1 + 1) from nI_add (i + 1) 1, yT_s]
    have hzl := zmi_lt (b := mb) (show i + 1 < 128 by omega)
    have hpl := ypc_le (i + 1)
    have hs2 : (yT C n p mb F i).2 ≤ 7 := by
      rcases yT_ok (C := C) (n := n) (p := p) (mb := mb) (F := F) i (by omega) with w | ⟨S', w1, w2, w3, w4, -⟩
      · omega
      · have := ypc_le S'; omega
    by_cases h1 : zmi (i + 1) mb = 0
    · rw [if_pos (show nI (zmi (i + 1) mb) = 0 by rw [h1]; rfl), X_bits (by omega), zb_some]
      by_cases h2 : ypc (i + 1) < (yT C n p mb F i).2
      · have hrl : yrc C n p (i + 1) F ≤ p := zct_le _ p
        rw [if_neg (show ¬ nI (yT C n p mb F i).2 ≤ nI (ypc (i + 1)) by rw [nI_leI (by omega) (by omega)]; omega), gR_6_2 hf, zb_some, aI_8 hf (by omega), zb_some, h8 (i + 1) (by omega), nI_and, X_bits (Nat.lt_of_le_of_lt Nat.and_le_left (Nat.lt_of_lt_of_le ymk_lt (p2_le hp7))), zb_some, ypc_and hp7 hF]
        by_cases h3 : yrc C n p (i + 1) F < ypc (i + 1)
        · rw [if_neg (show ¬ nI (ypc (i + 1)) ≤ nI (yrc C n p (i + 1) F) by rw [nI_leI (by omega) (by omega)]; omega), if_pos ⟨h1, h2, h3⟩]
        · rw [if_pos (show nI (ypc (i + 1)) ≤ nI (yrc C n p (i + 1) F) by rw [nI_leI (by omega) (by omega)]; omega), if_neg (fun z => h3 z.2.2)]
      · rw [if_pos (show nI (yT C n p mb F i).2 ≤ nI (ypc (i + 1)) by rw [nI_leI (by omega) (by omega)]; omega), if_neg (fun z => h2 z.2.1)]
    · rw [if_neg (show ¬ nI (zmi (i + 1) mb) = 0 from fun z => h1 (nI_inj (by omega) (by decide) z)), if_neg (fun z => h1 z.1)]
  · intro r
    rw [gI_6 hf, zb_some, h60, if_pos (show nI mb < nI (mb + 1) from nI_lt (by omega) (by omega))]
end H
theorem yan_0 {a b : Nat} : a &&& b = 0 ↔ ∀ j, ¬ (a.testBit j = true ∧ b.testBit j = true) := by
  constructor
  · intro h j ⟨h1, h2⟩
    have := Nat.testBit_and a b j
    rw [h, Nat.zero_testBit, h1, h2] at this
    cases this
  · intro h
    apply Nat.eq_of_testBit_eq
    intro j
    rw [Nat.testBit_and, Nat.zero_testBit]
    cases h1 : a.testBit j with
    | false => rfl
    | true =>
      cases h2 : b.testBit j with
      | false => rfl
      | true => exact absurd ⟨h1, h2⟩ (h j)
section S
variable {n p yr tx rl tp c : Nat} {μ : zS}
theorem M_fewL {C : Nat → Nat → Bool} {mu : Nat → Bool} {u : zS} {U mb : Nat} (hf : zFr u) (hm : yFm C mu n p u.2.1) (hU : U < 2 ^ p) (hmb : mb < 2 ^ n) (hmu : ∀ q, q < n → mb.testBit q = mu q) :
    (zfix2 (fun (r6 : Int32 → Int32 → Option (Int32 × zS)) (x7 : Int32) (x8 : Int32) => (zgI u 9 (some 73) 1).bind fun v9 => if ((1 : Int32) <<< (v9 &&& 31)) ≤ x8 then (some (x7, u)) else (zfix2 (fun (r10 : Int32 → Int32 → Option (Int32 × zS)) (x11 : Int32) (x12 : Int32) => (zgI u 9 (some 73) 4).bind fun v13 => if v13 ≤ x12 then (zfix2 (fun (r14 : Int32 → Int32 → Option (Int32 × zS)) (x15 : Int32) (x16 : Int32) => (zgI u 9 (some 73) 1).bind fun v17 => if v17 ≤ x16 then (if x15 = 0 then (r6 x7 (x8 + 1)) else ((F_M_bitsOf u x8).bind fun v18 => if v18 ≤ x11 then (r6 x7 (x8 + 1)) else (if x7 < 0 then (r6 x8 (x8 + 1)) else ((F_M_bitsOf u x8).bind fun v19 => (F_M_bitsOf u x7).bind fun v20 => if v20 ≤ v19 then (r6 x7 (x8 + 1)) else (r6 x8 (x8 + 1)))))) else (if x15 = 0 then (r14 0 (x16 + 1)) else (if ((x8 >>> (x16 &&& 31)) &&& 1) = 0 then (r14 1 (x16 + 1)) else ((zgR u 9 (some 73) 2).bind fun v21 => (zaI u .boolean v21 x16).bind fun v22 => if v22 = 0 then (r14 0 (x16 + 1)) else (r14 1 (x16 + 1)))))) zFU 1 0) else (if ((nI U >>> (x12 &&& 31)) &&& 1) = 0 then ((zgR u 9 (some 73) 32).bind fun v23 => (zaI u .int v23 x12).bind fun v24 => if (v24 &&& x8) = 0 then (r10 (x11 + 0) (x12 + 1)) else (r10 (x11 + 1) (x12 + 1))) else (r10 (x11 + 0) (x12 + 1)))) zFU 0 0)) zFU (-1) 1) = some ((yT C n p mb (fun w => !U.testBit w) mb).1, u) := by
  obtain ⟨hn6, hp7, h1, h4, h74, h91⟩ := hm
  have h64 := p2_6 hn6
  have h2n := p2_pos n
  have h2p := p2_le hp7
  generalize hF : (fun w => !U.testBit w) = F
  have hFw : ∀ w, F w = !U.testBit w := fun w => by rw [← hF]
  simp only [gI_73 hf, zb_some, h1, h4, gR_73_2 hf, gR_73_32 hf, n_shl1 (show n < 31 by omega)]
  refine fix2_t (2 ^ n - 1) (fun i => (yT C n p mb F i).1) (fun i => nI (i + 1)) ?_ ?_ (zFU_lt (by omega))
  · intro r i hi
    rw [if_neg (show ¬ nI (2 ^ n) ≤ nI (i + 1) by rw [nI_leI (by omega) (by omega)]; omega)]
    -- how many there are
    refine fix2_t p (fun w => nI (zct (fun w => yrb C n (i + 1) w && F w) w)) (fun w => nI w) ?_ ?_ (zFU_lt (by omega))
    · intro r2 w hw
      obtain ⟨cm, c1, c2, c3⟩ := h91 w hw
      rw [if_neg (show ¬ nI p ≤ nI w by rw [nI_leI (by omega) (by omega)]; omega), show nI w + 1 = nI (w + 1) from nI_add w 1, zct_s, hFw]
      cases hb : U.testBit w
      · rw [if_pos ((n_bit0 (by omega) (by omega)).mpr hb), aI_91 hf (by omega), zb_some, c2, nI_and]
        have hrb : yrb C n (i + 1) w = true ↔ ¬ cm &&& (i + 1) = 0 := by
          rw [yan_0]
          constructor
          · intro z y
            obtain ⟨q, q1, q2⟩ := yex_i.mp z
            rw [Bool.and_eq_true] at q2
            exact y q ⟨by rw [c3 q q1]; exact q2.2, q2.1⟩
          · intro z
            apply Classical.byContradiction
            intro y
            apply z
            rintro j ⟨y1, y2⟩
            have hjn : j < n := by
              apply Classical.byContradiction
              intro z
              rw [tb_lt (p := n) (by omega) (by omega)] at y2; cases y2
            exact y (yex_i.mpr ⟨j, hjn, by rw [Bool.and_eq_true, ← c3 j hjn]; exact ⟨y2, y1⟩⟩)
        have hal : cm &&& (i + 1) ≤ cm := Nat.and_le_left
        cases hrr : yrb C n (i + 1) w
        · have : cm &&& (i + 1) = 0 := by
            apply Classical.byContradiction
            intro z
            rw [hrb.mpr z] at hrr; cases hrr
          rw [if_pos (show nI (cm &&& (i + 1)) = 0 by rw [this]; rfl), show nI (zct (fun w => yrb C n (i + 1) w && F w) w) + 0 = nI (zct (fun w => yrb C n (i + 1) w && F w) w + 0) from nI_add _ 0]
          rfl
        · rw [if_neg (show ¬ nI (cm &&& (i + 1)) = 0 from fun z => hrb.mp hrr (nI_inj (by omega) (by decide) z)), show nI (zct (fun w => yrb C n (i + 1) w && F w) w) + 1 = nI (zct (fun w => yrb C n (i + 1) w && F w) w + 1) from nI_add _ 1]
          rfl
      · rw [if_neg (show ¬ ((nI U >>> (nI w &&& 31)) &&& 1) = 0 from fun z => by have := (n_bit0 (by omega) (by omega)).mp z; rw [hb] at this; cases this), show nI (zct (fun w => yrb C n (i + 1) w && F w) w) + 0 = nI (zct (fun w => yrb C n (i + 1) w && F w) w + 0) from nI_add _ 0]
        cases yrb C n (i + 1) w <;> rfl
    · intro r2
      rw [if_pos (show nI p ≤ nI p from Int32.le_refl _)]
      -- whether all must
      refine fix2_t n (fun q => b2 (!yex (fun q => (i + 1).testBit q && !mu q) q)) (fun q => nI q) ?_ ?_ (zFU_lt (by omega))
      · intro r3 q hq
        rw [if_neg (show ¬ nI n ≤ nI q by rw [nI_leI (by omega) (by omega)]; omega), show nI q + 1 = nI (q + 1) from nI_add q 1]
        have e1 : yex (fun q => (i + 1).testBit q && !mu q) (q + 1) = (yex (fun q => (i + 1).testBit q && !mu q) q || ((i + 1).testBit q && !mu q)) := rfl
        rw [e1]
        cases yex (fun q => (i + 1).testBit q && !mu q) q
        · rw [if_neg (show ¬ b2 (!false) = 0 by decide)]
          cases hb : (i + 1).testBit q
          · rw [if_pos ((n_bit0 (by omega) (by omega)).mpr hb)]
            rfl
          · rw [if_neg (show ¬ ((nI (i + 1) >>> (nI q &&& 31)) &&& 1) = 0 from fun z => by have := (n_bit0 (by omega) (by omega)).mp z; rw [hb] at this; cases this), aI_74 hf (by omega), zb_some, h74 q hq]
            cases mu q <;> rfl
        · rw [if_pos (show b2 (!true) = 0 by decide)]
          rfl
      · intro r3
        rw [if_pos (show nI n ≤ nI n from Int32.le_refl _), show nI (i + 1) + 1 = nI (i + 1 + 1) from nI_add (i + 1) 1]
        have hall : yex (fun q => (i + 1).testBit q && !mu q) n = false ↔ zmi (i + 1) mb = 0 := by
          rw [zmi_0 (by omega)]
          constructor
          · intro z j hj
            have hjn : j < n := by
              apply Classical.byContradiction
              intro z
              rw [tb_lt (p := n) (by omega) (by omega)] at hj; cases hj
            rw [hmu j hjn]
            apply Classical.byContradiction
            intro y
            have : yex (fun q => (i + 1).testBit q && !mu q) n = true := yex_i.mpr ⟨j, hjn, by
              rw [hj, Bool.true_and]
              cases hmm : mu j with
              | true => exact absurd hmm y
              | false => rfl⟩
            rw [this] at z; cases z
          · intro z
            cases y : yex (fun q => (i + 1).testBit q && !mu q) n with
            | false => rfl
            | true =>
              obtain ⟨j, j1, j2⟩ := yex_i.mp y
              rw [Bool.and_eq_true] at j2
              have := z j j2.1
              rw [hmu j j1] at this
              rw [this] at j2
              cases j2.2
        have hpl := ypc_6 (S := i + 1) (by omega)
        have hrl : zct (fun w => yrb C n (i + 1) w && F w) p ≤ p := zct_le _ p
        have ok := yT_ok (C := C) (n := n) (p := p) (mb := mb) (F := F) i (by omega)
        try dsimp only
        rw [yT_s]
        have erc : yrc C n p (i + 1) F = zct (fun w => yrb C n (i + 1) w && F w) p := rfl
        rw [erc, M_bits (show i + 1 < 128 by omega), zb_some, zb_some]
        generalize zct (fun w => yrb C n (i + 1) w && F w) p = cnt at *
        generalize yT C n p mb F i = t at *
        cases hy : yex (fun q => (i + 1).testBit q && !mu q) n
        · rw [if_neg (show ¬ b2 (!false) = 0 by decide)]
          have z0 := hall.mp hy
          by_cases h3 : cnt < ypc (i + 1)
          · rw [if_neg (show ¬ nI (ypc (i + 1)) ≤ nI cnt by rw [nI_leI (by omega) (by omega)]; omega)]
            rcases ok with ⟨o1, o2⟩ | ⟨S, o1, o2, o3, o4, o5, o6⟩
            · rw [o1, if_pos (show (-1 : Int32) < 0 by decide), if_pos ⟨z0, by omega, h3⟩]
            · have hSl := ypc_le S
              rw [o3, if_neg (nI_lt0 (by omega)), M_bits (by omega), zb_some]
              by_cases h4 : ypc (i + 1) < ypc S
              · rw [if_neg (show ¬ nI (ypc S) ≤ nI (ypc (i + 1)) by rw [nI_leI (by omega) (by omega)]; omega), if_pos ⟨z0, by omega, h3⟩]
              · rw [if_pos (show nI (ypc S) ≤ nI (ypc (i + 1)) by rw [nI_leI (by omega) (by omega)]; omega), if_neg (fun z => h4 (by omega)), o3]
          · rw [if_pos (show nI (ypc (i + 1)) ≤ nI cnt by rw [nI_leI (by omega) (by omega)]; omega), if_neg (fun z => h3 z.2.2)]
        · rw [if_pos (show b2 (!true) = 0 by decide), if_neg (fun z => by rw [hall.mpr z.1] at hy; cases hy)]
  · intro r
    rw [if_pos (show nI (2 ^ n) ≤ nI (2 ^ n - 1 + 1) by rw [show 2 ^ n - 1 + 1 = 2 ^ n by omega]; exact Int32.le_refl _), yT_st (by omega) (by omega)]
theorem K_few (h : zSt n p yr tx rl tp c μ) (a : Int32) : zOk c (fun u => F_X_few u 0 a) (fun u => F_M_few u 73 a) μ := by
  obtain ⟨hf, hP, hPe, hAs, hTa, hBa, hYr, hTp, hTx, hIm, hSh, hLt⟩ := id h
  have hn6 := hP.1
  have hp7 := hPe.1
  have n1 : ¬ nI 1 = 0 := by decide
  have n0 : nI 0 = 0 := rfl
  have h2p := p2_le hp7
  have h2q := p2_pos p
  rcases zcase a (n := 2 ^ p) (by omega) with ⟨U, hU, rfl⟩ | ha
  · have eU := zc_lt hU (show 2 ^ p < 2 ^ 31 by omega)
    obtain ⟨u, x1, x2, x3, -⟩ := X_look h
    have x3' := x3
    obtain ⟨-, -, ⟨mb, m1, m2, m3⟩, -⟩ := x3'
    have h1 := zSt_ag h (yBC_ag (tx := tx) x2)
    have hd := yBC_dt x2
    obtain ⟨u1, y1, y2, y3⟩ := M_fc h1
    have hd1 : zDt u.2.1 u1.2.1 := yNs_dt y2 (fun a k x => by omega)
    have hm := yFm_of h1 hd1 y3
    rw [zCan_f hd, yMu_c hd] at hm
    refine zOk_ag h (v := (yT (zCan μ.2.1) n p mb (fun w => !U.testBit w) mb).1) (μ1 := u) (μ2 := u1) ?_ (yBC_ag x2) ?_ (yNs_ag y2 (fun a k x y => by unfold zess at y; omega))
    · unfold F_X_few
      rw [fo_0 hf, zb_some, X_crew hf hPe.2.1 hp7, if_pos eU, zb_some, if_neg n1, zb_some, x1, zb_some, gR_0_8 x2.1, zb_some, fo_0 x2.1, zb_some, X_every x2.1 h1.2.2.1.2.1 hp7, zb_some, fo_6 x2.1, zb_some, nI_mi (by omega) (by omega), X_few x2.1 x3 m1 m2 (yall_free (U := U) hp7), zb_some]
    · unfold F_M_few
      rw [fo_73 h1.1, zb_some, M_away h1.1 h1.2.2.1.2.2.1 hp7, if_pos eU, zb_some, if_neg n1, zb_some, y1, zb_some]
      exact M_fewL y2.1 hm hU m1 m3
  · refine zOk_same (v := -2) h ?_ ?_
    · unfold F_X_few
      rw [fo_0 hf, zb_some, X_crew hf hPe.2.1 hp7, if_neg ha, zb_some, if_pos n0]
    · unfold F_M_few
      rw [fo_73 hf, zb_some, M_away hf hPe.2.2.1 hp7, if_neg ha, zb_some, if_pos n0]
end S
